section
variable {g : aG} {d : Nat} {μ m0 : aM} {Q : aQ} {p B a b n pp w x : Int} {T : TDt} {V V' : Vw}
theorem c_M_mean (hC : CM μ V T) (h : ∀ μ', KFr μ μ' → Q (some (aL (meanV T V n x))) μ') : Cal g (d + 9) m_M_mean [aR 31 0, aI n, aI x] μ Q := by
  have hn := hC.2.1.1
  have hsz := hC.sz
  have h0 := h μ (KFr.rf hC.2.2.2.2)
  unfold meanV at h h0
  refine T_M_mean (k1 := fun z => ?_) (k2 := fun _ z => ?_) (k3 := fun z1 z2 z3 => ?_) (k4 := fun _ _ z => ?_)
  · rw [if_neg (fun y => z y.1)] at h0; exact h0
  · rw [if_neg (by omega)] at h0; exact h0
  · rw [if_pos (by omega)] at h
    have hVd := daysV_ok (T := T) (pp := -1) hC.2.1 n z1.1
    have htg := tog_rng hVd
    have hnd : vn (daysV T (-1) V n) = vn V := daysV_n n z1.1
    refine Cal_le (show 1 ≤ d + 8 by omega) (c_M_save (d := 0) (fun m1 ht1 hv1 _ h25 => B_M_mean_33 (k1 := ?_)))
    refine c_M_goDays (by omega) (hC.2.2.2.1.x ht1.1) hC.2.2.1 (hv1.trans hC.1) hC.2.1 (by omega) (h25.trans hC.2.2.2.2) (fun m2 hf hm => B_M_mean_38 (k1 := ?_))
    have ht := ht1.m hf
    have e2 : m2 31 0 0 = vn V := by rw [← hnd]; exact (congrArg vn hm : _)
    have ho : ∀ i, 0 ≤ i → i < vn V → -999 ≤ vo (daysV T (-1) V n) i ∧ vo (daysV T (-1) V n) i ≤ 999 := fun i i0 i1 => vok_oOk hVd i i0 (by omega)
    refine loopR (n := vn V) (fun k (y : Int) => Rn g (d + 8) m_M_mean 43 [some (aR 31 0), some (aI n), some (aI x), some (aI y), some (aI k)] [] m2 Q) (fun k y => y = fI (fun m p => m + i_abs (vo (daysV T (-1) V n) p)) 0 k) ?_ ?_ 0 0 (by omega) hn.1 rfl
    · intro k y k0 hk hy ih
      have hr := sum_rng ho k k0 (by omega)
      rw [← hy] at hr
      have ev : vo (daysV T (-1) V n) k = m2 35 0 k := by rw [← hm]; exact vo_M k0 (by omega)
      have hok := ho k k0 hk
      rw [ev] at hok
      have ha := abs_rng hok
      refine B_M_mean_43 (k1 := fun z => absurd z (by omega)) (k2 := fun _ => ih _ ?_)
      rw [fI_s k0, ← hy, ev]
    · intro y hy
      have hyt : y = togV (daysV T (-1) V n) := by rw [hy]; unfold togV; rw [hnd]
      refine B_M_mean_43 (k1 := fun _ => Cal_le (show 1 ≤ d + 8 by omega) (c_M_putBack (d := 0) ht (fun m3 hk3 => B_M_mean_76 (k1 := ?_)))) (k2 := fun z => absurd z (by omega))
      have e3 : m3 31 0 0 = vn V := (hC.k hk3).sz
      refine Cal_le (show 2 ≤ d + 8 by omega) (c_M_lowest (d := 0) (by omega) (by omega) (B_M_mean_86 (k1 := ?_)))
      rw [e3, hyt]; exact h m3 hk3
  · rw [if_neg (by omega)] at h0; exact h0
theorem c_M_odds (hC : CM μ V T) (hg : gOk (μ 31 0 2)) (h : ∀ μ', KFr μ μ' → Q (some (aL (oddsV T V n x))) μ') : Cal g (d + 9) m_M_odds [aR 31 0, aI n, aI x] μ Q := by
  have hn := hC.2.1.1
  have hsz := hC.sz
  have h0 := h μ (KFr.rf hC.2.2.2.2)
  unfold oddsV at h h0
  refine T_M_odds (k1 := fun z => ?_) (k2 := fun _ z => ?_) (k3 := fun z1 z2 z3 => ?_) (k4 := fun _ _ z => ?_)
  · rw [if_neg (fun y => z y.1)] at h0; exact h0
  · rw [if_neg (by omega)] at h0; exact h0
  · rw [if_pos (by omega)] at h
    refine loopR (n := vn V) (fun k (y : aM × Int) => Rn g (d + 8) m_M_odds 34 [some (aR 31 0), some (aI n), some (aI x), some (aI y.2), some (aI k)] [] y.1 Q) (fun k y => KFr μ y.1 ∧ y.2 = oddC T V n k) ?_ ?_ 0 (μ, 0) (by omega) hn.1 ⟨KFr.rf hC.2.2.2.2, rfl⟩
    · rintro k ⟨m, y⟩ k0 hk ⟨hkf, hy⟩ ih
      dsimp only at hkf hy ih ⊢
      have hCm := hC.k hkf
      have e2 := hCm.sz
      have hrg := oddC_rng (T := T) (V := V) (n := n) k k0
      have hst : oddC T V n (k + 1) = if widthV (daysV T (-1) (putA V k 1) n) = 0 then y + 1 else y := by rw [hy]; exact fI_s k0
      rw [← hy] at hrg
      have hV1 : VOk 9999 (putA V k 1) := putA_ok hC.2.1 (Or.inr rfl)
      refine B_M_odds_34 (k1 := fun z => absurd z (by omega)) (k2 := fun _ => Cal_le (show 1 ≤ d + 8 by omega) (c_M_save (d := 0) (fun m1 ht1 hv1 hg1 h25 => B_M_odds_47 (k1 := ?_))))
      refine Cal_le (show 1 ≤ d + 8 by omega) (c_M_goes (d := 0) (by rw [hg1, hkf.2.2.1]; exact hg) ⟨k0, by omega⟩ (Or.inr rfl) (fun s hs hvs => B_M_odds_54 (k1 := ?_)))
      have ht2 := ht1.u31 (j := 2) (x := s)
      refine c_M_goDays (by omega) (hCm.2.2.2.1.x ht2.1) hC.2.2.1 (V := putA V k 1) (by rw [hvs, hv1, hCm.1]) hV1 (by omega) (pp := -1) (by rw [up_ne (by decide)]; exact h25.trans hCm.2.2.2.2) (fun m2 hf hm => B_M_odds_59 (k1 := ?_))
      have ht3 := ht2.m hf
      refine Cal_le (show 1 ≤ d + 8 by omega) (c_M_spread (d := 0) (B := 9999 + n) (by rw [hm]; exact daysV_ok hV1 n z1.1) ?_)
      rw [hm]
      refine B_M_odds_64 (k1 := fun z => Cal_le (show 1 ≤ d + 8 by omega) (c_M_putBack (d := 0) ht3 (fun m3 hk3 => B_M_odds_78 (k1 := ?_)))) (k2 := fun z => Cal_le (show 1 ≤ d + 8 by omega) (c_M_putBack (d := 0) ht3 (fun m3 hk3 => B_M_odds_78 (k1 := ?_))))
      · have := ih (m3, y + 0) ⟨hkf.tr hk3, by rw [hst, if_neg z]; dsimp only; omega⟩
        exact this
      · exact ih (m3, y + 1) ⟨hkf.tr hk3, by rw [hst, if_pos z]⟩
    · rintro ⟨m, y⟩ ⟨hkf, hy⟩
      dsimp only at hkf hy ⊢
      have e2 := (hC.k hkf).sz
      have hrg := oddC_rng (T := T) (V := V) (n := n) (vn V) hn.1
      rw [← hy] at hrg
      refine B_M_odds_34 (k1 := fun _ => Cal_le (show 2 ≤ d + 8 by omega) (c_M_lowest (d := 0) (by omega) (by omega) (B_M_odds_94 (k1 := ?_)))) (k2 := fun z => absurd z (by omega))
      rw [e2, hy]; exact h m hkf
  · rw [if_neg (by omega)] at h0; exact h0
end
