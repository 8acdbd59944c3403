/-! best of the reference, when, apart. -/
section
variable {g : aG} {d : Nat} {μ m0 : aM} {Q : aQ} {p B a b n pp w : Int} {T : TDt} {V : Vw}
/-- the least so far, as the reference holds it -/
def leastM (f v : Int → Int) (k : Int) (x : Int × Int) : Prop := (k = 0 ∧ x = (0, -1)) ∨ (0 < k ∧ 0 ≤ x.2 ∧ (x.2, x.1) = argF f v (1999, 0) k)
theorem least_s {f v : Int → Int} {k : Int} {x : Int × Int} (hf : 0 ≤ f k ∧ f k < 1999) (h0 : 0 ≤ k) (h : leastM f v k x) : leastM f v (k + 1) (if x.2 < 0 ∨ f k < x.2 then (v k, f k) else x) := by
  refine Or.inr ⟨by omega, ?_⟩
  rw [argF_s h0]
  rcases h with ⟨h1, h2⟩ | ⟨h1, h2, h3⟩
  · subst h1; subst h2
    rw [if_pos (Or.inl (by decide))]
    refine ⟨hf.1, ?_⟩
    exact (if_pos (show f 0 < (1999 : Int) by omega)).symm
  · rw [← h3]
    dsimp only
    by_cases z : f k < x.2
    · rw [if_pos (Or.inr z), if_pos z]; exact ⟨hf.1, rfl⟩
    · rw [if_neg (by omega), if_neg z]; exact ⟨h2, rfl⟩
theorem c_M_best (hC : CM μ V T) (h : ∀ μ', KFr μ μ' → Q (some (aI (bestV T V p))) μ') : Cal g (d + 10) m_M_best [aR 31 0, aI p] μ Q := by
  have hn := hC.2.1.1
  have hsz := hC.sz
  unfold bestV at h
  refine T_M_best (k1 := fun hp => ?_) (k2 := fun hp => ?_)
  · rw [hsz] at hp
    rw [if_pos hp] at h
    refine loopR (n := 19) (fun k (x : aM × Int × Int) => Rn g (d + 9) m_M_best 20 [some (aR 31 0), some (aI p), some (aI x.2.1), some (aI x.2.2), some (aI (k - 9)), none] [] x.1 Q) (fun k x => KFr μ x.1 ∧ leastM (bestF T V p) (fun k => k - 9) k x.2) ?_ ?_ 0 (μ, 0, -1) (by omega) (by omega) ⟨KFr.rf hC.2.2.2.2, Or.inl ⟨rfl, rfl⟩⟩
    · rintro k ⟨m, x1, x2⟩ h0 hk ⟨hkf, hx⟩ ih
      dsimp only at hkf hx ih ⊢
      have hCm := hC.k hkf
      have hV1 : VOk 9999 (putO V p (k - 9)) := putO_ok hC.2.1 (by omega)
      have hfk : 0 ≤ bestF T V p k ∧ bestF T V p k ≤ 999 := worst_rng (daysV_ok hV1 30 (by omega))
      have hst := least_s (by omega) h0 hx
      refine B_M_best_20 (k1 := fun z => absurd z (by omega)) (k2 := fun _ => Cal_le (show 1 ≤ d + 9 by omega) (c_M_save (d := 0) (fun m1 ht1 hv1 _ h25 => B_M_best_31 (k1 := ?_))))
      refine c_M_then ht1.u hCm (V' := putO V p (k - 9)) (by rw [vM_putO, hv1, hCm.1]) hV1 (pp := -1) (by rw [up_k (by decide)]; exact h25.trans hCm.2.2.2.2) (fun m4 hk4 => ?_)
      rw [if_neg (by decide), show worstV (daysV T (-1) (putO V p (k - 9)) 30) = bestF T V p k from rfl]
      have yes : (x2 < 0 ∨ bestF T V p k < x2) → Rn g (d + 9) m_M_best 20 [some (aR 31 0), some (aI p), some (aI (k - 9)), some (aI (bestF T V p k)), some (aI (k - 9 + 1)), none] [] m4 Q := fun z => by
        have := ih (m4, k - 9, bestF T V p k) ⟨hkf.tr hk4, by rw [if_pos z] at hst; exact hst⟩
        rw [show k + 1 - 9 = k - 9 + 1 by omega] at this; exact this
      refine B_M_best_44 (k1 := fun z => yes (Or.inl z)) (k2 := fun _ z => yes (Or.inr z)) (k3 := fun z1 z2 => ?_)
      have z2' : x2 ≤ bestF T V p k := z2
      have := ih (m4, x1, x2) ⟨hkf.tr hk4, by rw [if_neg (by dsimp only; omega)] at hst; exact hst⟩
      rw [show k + 1 - 9 = k - 9 + 1 by omega] at this; exact this
    · rintro ⟨m, x1, x2⟩ ⟨hkf, hx⟩
      dsimp only at hkf hx ⊢
      refine B_M_best_20 (k1 := fun _ => ?_) (k2 := fun z => absurd z (by decide))
      have := h m hkf
      rcases hx with ⟨hx, _⟩ | ⟨_, _, hx⟩
      · exact absurd hx (by decide)
      · rw [← hx] at this; exact this
  · rw [hsz] at hp
    rw [if_neg hp] at h
    exact h μ (KFr.rf hC.2.2.2.2)
theorem c_M_when (hC : CM μ V T) (h : ∀ μ', KFr μ μ' → Q (some (aI (whenV T V p))) μ') : Cal g (d + 10) m_M_when [aR 31 0, aI p] μ Q := by
  have hn := hC.2.1.1
  have hsz := hC.sz
  unfold whenV at h
  refine T_M_when (k1 := fun hp => ?_) (k2 := fun hp => ?_)
  · rw [hsz] at hp
    rw [if_pos hp] at h
    refine loopR (n := 10) (fun k (x : aM × Int × Int) => Rn g (d + 9) m_M_when 17 [some (aR 31 0), some (aI p), some (aI x.2.1), some (aI x.2.2), some (aI (10 * k)), none] [] x.1 Q) (fun k x => KFr μ x.1 ∧ leastM (whenF T V p) (fun k => 10 * k) k x.2) ?_ ?_ 0 (μ, 0, -1) (by omega) (by omega) ⟨KFr.rf hC.2.2.2.2, Or.inl ⟨rfl, rfl⟩⟩
    · rintro k ⟨m, x1, x2⟩ h0 hk ⟨hkf, hx⟩ ih
      dsimp only at hkf hx ih ⊢
      have hCm := hC.k hkf
      have hV1 : VOk 9999 (putU V p (10 * k)) := putU_ok hC.2.1 (by omega)
      have hfk : 0 ≤ whenF T V p k ∧ whenF T V p k ≤ 1998 := width_rng (daysV_ok hV1 30 (by omega))
      have hst := least_s (by omega) h0 hx
      refine B_M_when_17 (k1 := fun z => absurd z (by omega)) (k2 := fun _ => Cal_le (show 1 ≤ d + 9 by omega) (c_M_save (d := 0) (fun m1 ht1 hv1 _ h25 => B_M_when_28 (k1 := ?_))))
      refine c_M_then ht1.u hCm (V' := putU V p (10 * k)) (by rw [vM_putU, hv1, hCm.1]) hV1 (pp := -1) (by rw [up_k (by decide)]; exact h25.trans hCm.2.2.2.2) (fun m4 hk4 => ?_)
      rw [if_pos rfl, show widthV (daysV T (-1) (putU V p (10 * k)) 30) = whenF T V p k from rfl]
      have yes : (x2 < 0 ∨ whenF T V p k < x2) → Rn g (d + 9) m_M_when 17 [some (aR 31 0), some (aI p), some (aI (10 * k)), some (aI (whenF T V p k)), some (aI (10 * k + 10)), none] [] m4 Q := fun z => by
        have := ih (m4, 10 * k, whenF T V p k) ⟨hkf.tr hk4, by rw [if_pos z] at hst; exact hst⟩
        rw [show 10 * (k + 1) = 10 * k + 10 by omega] at this; exact this
      refine B_M_when_41 (k1 := fun z => yes (Or.inl z)) (k2 := fun _ z => yes (Or.inr z)) (k3 := fun z1 z2 => ?_)
      have z2' : x2 ≤ whenF T V p k := z2
      have := ih (m4, x1, x2) ⟨hkf.tr hk4, by rw [if_neg (by dsimp only; omega)] at hst; exact hst⟩
      rw [show 10 * (k + 1) = 10 * k + 10 by omega] at this; exact this
    · rintro ⟨m, x1, x2⟩ ⟨hkf, hx⟩
      dsimp only at hkf hx ⊢
      refine B_M_when_17 (k1 := fun _ => ?_) (k2 := fun z => absurd z (by decide))
      have := h m hkf
      rcases hx with ⟨hx, _⟩ | ⟨_, _, hx⟩
      · exact absurd hx (by decide)
      · rw [← hx] at this; exact this
  · rw [hsz] at hp
    rw [if_neg hp] at h
    exact h μ (KFr.rf hC.2.2.2.2)
theorem c_P_when (hC : CC μ V T) (hpp : μ 21 0 5 = -1) (h : ∀ μ', QFr μ μ' → Q (some (aI (whenV T V p))) μ') : Cal g (d + 7) m_P_when [aR 0 0, aI p] μ Q := by
  have hn := hC.2.1.1
  unfold whenV at h
  refine T_P_when (k1 := fun hp => ?_) (k2 := fun hp => ?_)
  · rw [hC.sz] at hp
    rw [if_pos hp] at h
    refine loopR (n := 10) (fun k (x : aM × Int × Int) => Rn g (d + 6) m_P_when 19 [some (aR 0 0), some (aI p), some (aI x.2.1), some (aI x.2.2), some (aI (10 * k))] [] x.1 Q) (fun k x => QFr μ x.1 ∧ x.2 = argF (whenF T V p) (fun k => 10 * k) (1999, 0) k) ?_ ?_ 0 (μ, 1999, 0) (by omega) (by omega) ⟨⟨TFr.rf, hpp⟩, rfl⟩
    · rintro k ⟨m, x1, x2⟩ h0 hk ⟨⟨hf, h5⟩, hx⟩ ih
      dsimp only at hf h5 hx ih ⊢
      have hst := argF_s (f := whenF T V p) (v := fun k => 10 * k) (s0 := (1999, 0)) h0
      rw [← hx] at hst
      dsimp only at hst
      have hV1 : VOk 9999 (putU V p (10 * k)) := putU_ok hC.2.1 (by omega)
      refine B_P_when_19 (k1 := fun z => absurd z (by omega)) (k2 := fun _ => Cal_le (show 1 ≤ d + 6 by omega) (c_become (d := 0) (fun m1 hf1 h21 hv1 => B_P_when_40 (k1 := ?_))))
      have hf2 : TFr μ (up m1 5 2 p (10 * k)) := (hf.tr hf1).u
      refine Cal_le (show 1 ≤ d + 6 by omega) (c_P_holder (d := 0) (hC.t hf2) (fun t hT => B_P_when_63 (k1 := ?_)))
      refine c_Mo_goDays (by omega) hT hC.2.2.1 (V := putU V p (10 * k)) (by rw [vC_putU, hv1, (hC.t hf).1]) hV1 (by omega) (pp := -1) (by rw [up_k (by decide), h21]; exact h5) (fun m2 hf3 hv2 => B_P_when_68 (k1 := ?_))
      have hV2 : VOk (9999 + 30) (vC m2 2) := by rw [hv2]; exact daysV_ok hV1 30 (by omega)
      have hf4 : QFr μ m2 := ⟨hf2.tr hf3.T, by rw [hf3.2.2, up_k (by decide), h21]; exact h5⟩
      refine Cal_le (show 1 ≤ d + 6 by omega) (c_Cr_width (d := 0) hV2 ?_)
      rw [hv2]
      refine B_P_when_75 (k1 := fun z => ?_) (k2 := fun z => Cal_le (show 1 ≤ d + 6 by omega) (c_Cr_width (d := 0) hV2 ?_))
      · have := ih (m2, x1, x2) ⟨hf4, by rw [hst, if_neg (by unfold whenF; omega)]⟩
        rw [show 10 * (k + 1) = 10 * k + 10 by omega] at this; exact this
      · rw [hv2]
        have := ih (m2, _, 10 * k) ⟨hf4, by rw [hst, if_pos (show whenF T V p k < x1 from z)]⟩
        rw [show 10 * (k + 1) = 10 * k + 10 by omega] at this
        exact B_P_when_86 (k1 := this)
    · rintro ⟨m, x1, x2⟩ ⟨hf, hx⟩
      dsimp only at hf hx ⊢
      refine B_P_when_19 (k1 := fun _ => ?_) (k2 := fun z => absurd z (by decide))
      have := h m hf
      rw [← hx] at this; exact this
  · rw [hC.sz] at hp
    rw [if_neg hp] at h
    exact h μ ⟨TFr.rf, hpp⟩
theorem ap_rng {k : Int} (hV : VOk 9999 V) (hk : 0 ≤ k) (ha : 0 ≤ a ∧ a < 6) (hb : 0 ≤ b ∧ b < 6) : 0 ≤ apF T V a b k ∧ apF T V a b k ≤ 1998 := by
  have h1 := vok_oOk (daysV_ok (T := T) (pp := -1) hV k hk) a ha.1 ha.2
  have h2 := vok_oOk (daysV_ok (T := T) (pp := -1) hV k hk) b hb.1 hb.2
  unfold apF
  rw [i_abs_e (by omega) (by omega)]; split <;> omega
theorem c_P_apart (hC : CC μ V T) (hpp : μ 21 0 5 = -1) (h : ∀ μ', QFr μ μ' → Q (some (aI (apartV T V a b n))) μ') : Cal g (d + 6) m_P_apart [aR 0 0, aI a, aI b, aI n] μ Q := by
  have hn := hC.2.1.1
  have hsz := hC.sz
  have h0 := h μ ⟨TFr.rf, hpp⟩
  unfold apartV at h h0
  refine T_P_apart (k1 := fun z1 => ?_) (k2 := fun z1 z2 z3 => ?_) (k3 := fun z1 z2 z3 z4 => ?_) (k4 := fun z1 z2 z3 z4 => ?_) (k5 := fun z1 z2 => ?_)
  all_goals try rw [hsz] at z1
  all_goals try rw [hsz] at z2
  · rw [if_neg z1] at h0; exact h0
  · rw [if_pos z1, if_pos z2, if_pos z3] at h0; exact h0
  · rw [if_pos z1, if_pos z2, if_neg z3, if_pos z4] at h
    refine Cal_le (show 1 ≤ d + 5 by omega) (c_become (d := 0) (fun m1 hf1 h21 hv1 => ?_))
    have ha6 : 0 ≤ a ∧ a < 6 := by omega
    have hb6 : 0 ≤ b ∧ b < 6 := by omega
    have hvm : ∀ {m : aM} {k : Int}, vC m 2 = daysV T (-1) V k → m 6 2 a = vo (daysV T (-1) V k) a ∧ m 6 2 b = vo (daysV T (-1) V k) b := fun hv => by rw [← hv]; exact ⟨(vo_C ha6.1 ha6.2).symm, (vo_C hb6.1 hb6.2).symm⟩
    have hor : ∀ {k : Int}, 0 ≤ k → (-999 ≤ vo (daysV T (-1) V k) a ∧ vo (daysV T (-1) V k) a ≤ 999) ∧ (-999 ≤ vo (daysV T (-1) V k) b ∧ vo (daysV T (-1) V k) b ≤ 999) := fun hk => ⟨vok_oOk (daysV_ok (T := T) (pp := -1) hC.2.1 _ hk) a ha6.1 ha6.2, vok_oOk (daysV_ok (T := T) (pp := -1) hC.2.1 _ hk) b hb6.1 hb6.2⟩
    have e0 := hvm (k := 0) (hv1.trans hC.1)
    have o0 := hor (Int.le_refl 0)
    refine B_P_apart_49 (k1 := ?_)
    rw [e0.1, e0.2]
    refine loopR (n := n) (fun k (x : aM × Int) => Rn g (d + 5) m_P_apart 63 [some (aR 0 0), some (aI a), some (aI b), some (aI n), some (aI x.2), some (aI k)] [] x.1 Q) (fun k x => QFr μ x.1 ∧ vC x.1 2 = daysV T (-1) V k ∧ x.2 = fI (fun s k => i_max s (apF T V a b (k + 1))) (apF T V a b 0) k) ?_ ?_ 0 (m1, apF T V a b 0) (by omega) z4.1 ⟨⟨hf1, (congrFun (congrFun h21 0) 5).trans hpp⟩, hv1.trans hC.1, rfl⟩
    · rintro k ⟨m, x⟩ k0 hk ⟨⟨hf, h5⟩, hv, hx⟩ ih
      dsimp only at hf h5 hv hx ih ⊢
      refine B_P_apart_63 (k1 := fun z => absurd z (by omega)) (k2 := fun _ => Cal_le (show 1 ≤ d + 5 by omega) (c_P_holder (d := 0) (hC.t hf) (fun t hT => B_P_apart_81 (k1 := ?_))))
      refine c_Mo_goDay (B := 9999 + k) hT hC.2.2.1 hv (daysV_ok hC.2.1 k k0) (by omega) h5 (fun m' hf' hm' _ => ?_)
      have hv' : vC m' 2 = daysV T (-1) V (k + 1) := by rw [hm', daysV_s k0]
      have e1 := hvm hv'
      have o1 := hor (show 0 ≤ k + 1 by omega)
      refine B_P_apart_84 (k1 := ?_)
      rw [e1.1, e1.2]
      exact ih (m', _) ⟨⟨hf.tr hf'.T, hf'.2.2.trans h5⟩, hv', by rw [fI_s k0, hx]; rfl⟩
    · rintro ⟨m, x⟩ ⟨hf, hv, hx⟩
      dsimp only at hf hv hx ⊢
      refine B_P_apart_63 (k1 := fun _ => ?_) (k2 := fun z => absurd z (by omega))
      rw [hx]; exact h m hf
  · rw [if_pos z1, if_pos z2, if_neg z3, if_neg z4] at h0; exact h0
  · rw [if_pos z1, if_neg z2] at h0; exact h0
end
