section
variable {g : aG} {d : Nat} {μ m0 : aM} {Q : aQ} {p B a b n pp w r : Int} {T : TDt} {V : Vw}
theorem E_P_on_far (h1 : -2147483648 ≤ w) (h2 : w < -2147483638) (hn : μ 2 0 0 ≤ 6) (k : Q (some (aI (-10001))) μ) : Rn g (d + 6) m_P_on 0 [some (aR 0 0), some (aI n), some (aI w), none] [] μ Q := by
  have hw0 : ¬ (w = 0) := by omega
  have hw1 : ¬ (w = 1) := by omega
  have hw2 : ¬ (0 ≤ w - 10 + 4294967296 ∧ w - 10 + 4294967296 < μ 2 0 0) := by omega
  refine R_blk 4 ?_
  show Rn g (d + 6) m_P_on _ _ (aI (w32 (w - 10)) :: _) μ Q
  rw [w_far h1 h2]
  exact R_blk 1 (And.intro (Nat.le_of_ble_eq_true rfl) (c_P_isPerson (R_blk 3 (And.intro (fun c1 => absurd c1 hw0) (fun c1 => (R_blk 3 (And.intro (fun c3 => absurd c3 hw1) (fun c3 => (R_blk 2 (And.intro (fun c5 => absurd (bI_ne.mp c5) hw2) (fun c5 => (R_blk 2 (And.intro trivial k)))))))))))))
theorem c_P_on (hC : CC μ V T) (hpp : μ 21 0 5 = -1) (hw : -2147483648 ≤ w ∧ w < 2147483648) (h : ∀ μ', QFr μ μ' → Q (some (aI (onV T V n w))) μ') : Cal g (d + 7) m_P_on [aR 0 0, aI n, aI w] μ Q := by
  have hn := hC.2.1.1
  have hsz := hC.sz
  have h0 := h μ ⟨TFr.rf, hpp⟩
  unfold onV at h h0
  by_cases hf : w < -2147483638
  · rw [if_neg (by omega)] at h0
    exact C_ent rfl (Nat.le_of_ble_eq_true rfl) (E_P_on_far hw.1 hf (by omega) h0)
  · have go : ∀ x3, (w = 0 ∨ w = 1 ∨ (10 ≤ w ∧ w < 10 + vn V)) → (0 ≤ n ∧ n ≤ 60) → x3 = bI (0 ≤ w - 10 ∧ w - 10 < vn V) → Cal g (d + 6) m_P_tryDays [aR 0 0, aI n] μ (fun rv μ' => Rn g (d + 6) m_P_on 44 [some (aR 0 0), some (aI n), some (aI w), some (aI x3)] (optL rv ++ []) μ' Q) := fun x3 z1 z2 z3 => by
      rw [if_pos z1, if_pos z2] at h
      refine c_P_tryDays hC z2 hpp (fun m hf h5 hv => ?_)
      have hVd := daysV_ok (T := T) (pp := -1) hC.2.1 n z2.1
      refine B_P_on_44 (k1 := fun z => ?_) (b2 := fun z => ?_) (k2 := fun z => ?_)
      · rw [z3] at z
        have z := bI_eq.mp z
        refine Cal_le (show 2 ≤ d + 6 by omega) (c_Cr_wrongOrSpread (d := 0) (by rw [hv]; exact hVd) (B_P_on_71 (k1 := ?_)))
        rw [hv]
        have := h m ⟨hf, h5⟩
        by_cases e : w = 0
        · rw [if_pos e] at this ⊢; exact this
        · rw [if_neg e, if_pos (by omega)] at this; rw [if_neg e]; exact this
      · rw [z3] at z
        have z := bI_ne.mp z
        omega
      · rw [z3] at z
        have z := bI_ne.mp z
        have := h m ⟨hf, h5⟩
        rw [if_neg (by omega), if_neg (by omega), ← hv, vo_C (by omega) (by omega)] at this
        exact this
    refine T_P_on (k1 := fun z1 z2 => ?_) (k2 := fun z1 z2 => ?_) (k3 := fun _ z1 z2 => ?_) (k4 := fun _ z1 z2 => ?_) (k5 := fun y1 y2 z1 z2 => ?_) (k6 := fun y1 y2 z1 z2 => ?_) (k7 := fun y1 y2 z1 => ?_)
    · exact go _ (by omega) z2 (by rw [hsz])
    · rw [if_pos (by omega), if_neg z2] at h0; exact h0
    · exact go _ (by omega) z2 (by rw [hsz])
    · rw [if_pos (by omega), if_neg z2] at h0; exact h0
    · rw [hsz] at z1; exact go _ (by omega) z2 (by rw [hsz])
    · rw [hsz] at z1; rw [if_pos (by omega), if_neg z2] at h0; exact h0
    · rw [hsz] at z1; rw [if_neg (by omega)] at h0; exact h0
theorem c_M_on (hC : CM μ V T) (h : ∀ μ', KFr μ μ' → Q (some (aI (onV T V n w))) μ') : Cal g (d + 9) m_M_on [aR 31 0, aI n, aI w] μ Q := by
  have hn := hC.2.1.1
  have hsz := hC.sz
  have h0 := h μ (KFr.rf hC.2.2.2.2)
  unfold onV at h h0
  have go : (w = 0 ∨ w = 1 ∨ (10 ≤ w ∧ w < 10 + vn V)) → (0 ≤ n ∧ n ≤ 60) → Cal g (d + 8) m_M_save [aR 31 0] μ (fun rv μ' => Rn g (d + 8) m_M_on 47 [some (aR 31 0), some (aI n), some (aI w), none] (optL rv ++ []) μ' Q) := fun z1 z2 => by
    rw [if_pos z1, if_pos z2] at h
    have hVd := daysV_ok (T := T) (pp := -1) hC.2.1 n z2.1
    refine Cal_le (show 1 ≤ d + 8 by omega) (c_M_save (d := 0) (fun m1 ht1 hv1 _ h25 => B_M_on_47 (k1 := ?_)))
    refine c_M_goDays (by omega) (hC.2.2.2.1.x ht1.1) hC.2.2.1 (hv1.trans hC.1) hC.2.1 (by omega) (h25.trans hC.2.2.2.2) (fun m hf hm => ?_)
    have ht := ht1.m hf
    refine B_M_on_52 (k1 := fun e1 e2 => ?_) (k2 := fun e1 e2 => ?_) (k3 := fun e => ?_)
    · rw [if_neg e1, if_neg e2] at h
      refine Cal_le (show 1 ≤ d + 8 by omega) (c_M_putBack (d := 0) ht (fun m' hk => B_M_on_89 (k1 := ?_)))
      have := h m' hk
      rw [← hm, vo_M (by omega) (by omega)] at this; exact this
    · rw [if_neg e1, if_pos e2] at h
      refine Cal_le (show 1 ≤ d + 8 by omega) (c_M_spread (d := 0) (by rw [hm]; exact hVd) (B_M_on_72 (k1 := Cal_le (show 1 ≤ d + 8 by omega) (c_M_putBack (d := 0) ht (fun m' hk => B_M_on_89 (k1 := ?_))))))
      rw [hm]; exact h m' hk
    · rw [if_pos e] at h
      refine Cal_le (show 2 ≤ d + 8 by omega) (c_M_wrong (d := 0) (by rw [hm]; exact hVd) (B_M_on_60 (k1 := Cal_le (show 1 ≤ d + 8 by omega) (c_M_putBack (d := 0) ht (fun m' hk => B_M_on_89 (k1 := ?_))))))
      rw [hm]; exact h m' hk
  refine T_M_on (k1 := fun z1 z2 => ?_) (k2 := fun z1 z2 => ?_) (k3 := fun z0 z1 z2 => ?_) (k4 := fun z0 z1 z2 => ?_) (k5 := fun z0 z1 => ?_)
  · exact go (by omega) z2
  · rw [if_pos (by omega), if_neg z2] at h0; exact h0
  · rw [hsz] at z1; exact go (by omega) z2
  · rw [hsz] at z1; rw [if_pos (by omega), if_neg z2] at h0; exact h0
  · rw [hsz] at z1; rw [if_neg (by omega)] at h0; exact h0
theorem c_P_who (hC : CC μ V T) (hpp : μ 21 0 5 = -1) (h : ∀ μ', QFr μ μ' → Q (some (aI (whoV T V r n))) μ') : Cal g (d + 7) m_P_who [aR 0 0, aI r, aI n] μ Q := by
  have hn := hC.2.1.1
  have h0 := h μ ⟨TFr.rf, hpp⟩
  unfold whoV at h h0
  refine T_P_who (k1 := fun z => ?_) (k2 := fun _ z => ?_) (k3 := fun z1 z2 z3 => ?_) (k4 := fun _ _ z => ?_)
  · rw [if_neg (by omega)] at h0; exact h0
  · rw [if_neg (by omega)] at h0; exact h0
  · rw [if_pos (by omega)] at h
    refine c_P_tryDays hC (by omega) hpp (fun m1 hf1 h51 hv1 => B_P_who_28 (k1 := Cal_le (show 1 ≤ d + 6 by omega) (c_P_holder (d := 0) (hC.t hf1) (fun t hT => B_P_who_40 (k1 := ?_)))))
    have hVd := daysV_ok (T := T) (pp := -1) hC.2.1 n z3.1
    refine Cal_le (show 4 ≤ d + 6 by omega) (c_Mo_look (d := 0) hT hC.2.2.1 hv1 hVd (by omega) h51 (fun m2 hf2 hr => B_P_who_43 (k1 := ?_)))
    have hT2 : TFr μ m2 := hf1.tr (fun k c _ z => by rw [hf2 k (by simp; omega)])
    have h52 : m2 21 0 5 = -1 := by rw [hf2 21 (by decide)]; exact h51
    have e2 : m2 2 2 0 = vn (daysV T (-1) V n) := by rw [hf2 2 (by decide)]; exact (congrArg vn hv1 : _)
    have hnd := hVd.1
    refine loopR (n := vn (daysV T (-1) V n)) (fun k (x : Int) => Rn g (d + 6) m_P_who 48 [some (aR 0 0), some (aI r), some (aI n), some (aI x), some (aI k)] [] m2 Q) (fun k x => x = whoF T (daysV T (-1) V n) r k) ?_ ?_ 0 0 (by omega) hnd.1 rfl
    · intro k x k0 hk hx ih
      have hst : whoF T (daysV T (-1) V n) r (k + 1) = if rgV T (-1) (daysV T (-1) V n) k = r then b_or x (b_shl 1 k) else x := by rw [hx]; exact fI_s k0
      have e24 := (hr k k0 hk).2.1
      refine B_P_who_48 (k1 := fun z => absurd z (by omega)) (k2 := fun _ z => ih _ ?_) (k3 := fun _ z => ih _ ?_)
      · rw [hst, if_neg (by rw [← e24]; exact z)]
      · rw [hst, if_pos (by rw [← e24]; exact z)]
    · intro x hx
      refine B_P_who_48 (k1 := fun _ => ?_) (k2 := fun z => absurd z (by omega)) (k3 := fun z => absurd z (by omega))
      rw [hx]; exact h m2 ⟨hT2, h52⟩
  · rw [if_neg (by omega)] at h0; exact h0
theorem c_M_who (hC : CM μ V T) (h : ∀ μ', KFr μ μ' → Q (some (aI (whoV T V r n))) μ') : Cal g (d + 9) m_M_who [aR 31 0, aI r, aI n] μ Q := by
  have hn := hC.2.1.1
  have h0 := h μ (KFr.rf hC.2.2.2.2)
  unfold whoV at h h0
  refine T_M_who (k1 := fun z => ?_) (k2 := fun z1 z2 => ?_) (k3 := fun _ z => ?_)
  · rw [if_neg (by omega)] at h0; exact h0
  · rw [if_pos (by omega)] at h
    have hVd := daysV_ok (T := T) (pp := -1) hC.2.1 n z2.1
    have hnd := hVd.1
    refine Cal_le (show 1 ≤ d + 8 by omega) (c_M_save (d := 0) (fun m1 ht1 hv1 _ h25 => B_M_who_29 (k1 := ?_)))
    refine c_M_goDays (by omega) (hC.2.2.2.1.x ht1.1) hC.2.2.1 (hv1.trans hC.1) hC.2.1 (by omega) (h25.trans hC.2.2.2.2) (fun m2 hf hm2 => B_M_who_34 (k1 := ?_))
    refine loopR (n := vn (daysV T (-1) V n)) (fun k (x : aM × Int) => Rn g (d + 8) m_M_who 39 [some (aR 31 0), some (aI r), some (aI n), some (aI x.2), some (aI k)] [] x.1 Q) (fun k x => (Trl μ x.1 ∧ x.1 31 0 25 = -1 ∧ vM x.1 = daysV T (-1) V n) ∧ x.2 = whoF T (daysV T (-1) V n) r k) ?_ ?_ 0 (m2, 0) (by omega) hnd.1 ⟨⟨ht1.m hf, (hf.2 25 (by decide) (by decide)).trans (h25.trans hC.2.2.2.2), hm2⟩, rfl⟩
    · rintro k ⟨m, x⟩ k0 hk ⟨⟨ht, h5, hv⟩, hx⟩ ih
      dsimp only at ht h5 hv hx ih ⊢
      have e2 : m 31 0 0 = vn (daysV T (-1) V n) := (congrArg vn hv : _)
      have hst : whoF T (daysV T (-1) V n) r (k + 1) = if rgV T (-1) (daysV T (-1) V n) k = r then b_or x (b_shl 1 k) else x := by rw [hx]; exact fI_s k0
      have hxr : -2147483648 ≤ x ∧ x < 2147483648 := by rw [hx]; exact whoF_rng k k0
      refine B_M_who_39 (k1 := fun z => absurd z (by omega)) (k2 := fun _ => Cal_le (show 6 ≤ d + 8 by omega) (c_M_rings (d := 0) (hC.2.2.2.1.x ht.1) hC.2.2.1 hv hVd (by omega) h5 ⟨k0, by omega⟩ (fun m3 hs3 => ?_)))
      have ht3 : Trl μ m3 ∧ m3 31 0 25 = -1 ∧ vM m3 = daysV T (-1) V n := ⟨ht.m hs3.M, by rw [hs3 31 (by decide)]; exact h5, hs3.vM.trans hv⟩
      refine B_M_who_55 (k1 := fun z => ?_) (k2 := fun z => ih (m3, b_or x (b_shl 1 k)) ⟨ht3, by rw [hst, if_pos z]⟩)
      · rw [b_or_0 hxr]
        exact ih (m3, x) ⟨ht3, by rw [hst, if_neg z]⟩
    · rintro ⟨m, x⟩ ⟨⟨ht, h5, hv⟩, hx⟩
      dsimp only at ht hv hx ⊢
      have e2 : m 31 0 0 = vn (daysV T (-1) V n) := (congrArg vn hv : _)
      refine B_M_who_39 (k1 := fun _ => Cal_le (show 1 ≤ d + 8 by omega) (c_M_putBack (d := 0) ht (fun m' hk => B_M_who_79 (k1 := ?_)))) (k2 := fun z => absurd z (by omega))
      rw [hx]; exact h m' hk
  · rw [if_neg (by omega)] at h0; exact h0
end
