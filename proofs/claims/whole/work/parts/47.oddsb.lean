section
variable {g : aG} {d : Nat} {μ m0 : aM} {Q : aQ} {p B a b n pp w x : Int} {T : TDt} {V V' : Vw}
theorem c_P_odds (hC : CC μ V T) (hpp : μ 21 0 5 = -1) (h : ∀ μ', QFr μ μ' → Q (some (aL (oddsV T V n x))) μ') : Cal g (d + 7) m_P_odds [aR 0 0, aI n, aI x] μ Q := by
  have hn := hC.2.1.1
  have hsz := hC.sz
  have h0 := h μ ⟨TFr.rf, hpp⟩
  unfold oddsV at h h0
  refine T_P_odds (k1 := fun z => ?_) (k2 := fun z => ?_)
  · rw [hsz] at z
    rw [if_pos z] at h
    refine loopR (n := vn V) (fun k (y : aM × Int) => Rn g (d + 6) m_P_odds 18 [some (aR 0 0), some (aI n), some (aI x), some (aI y.2), some (aI k)] [] y.1 Q) (fun k y => QFr μ y.1 ∧ y.2 = oddC T V n k) ?_ ?_ 0 (μ, 0) (by omega) hn.1 ⟨⟨TFr.rf, hpp⟩, rfl⟩
    · rintro k ⟨m, y⟩ k0 hk ⟨⟨hf, h5⟩, hy⟩ ih
      dsimp only at hf h5 hy ih ⊢
      have e2 := (hC.t hf).sz
      have hrg := oddC_rng (T := T) (V := V) (n := n) k k0
      have hst : oddC T V n (k + 1) = if widthV (daysV T (-1) (putA V k 1) n) = 0 then y + 1 else y := by rw [hy]; exact fI_s k0
      rw [← hy] at hrg
      have hV1 : VOk 9999 (putA V k 1) := putA_ok hC.2.1 (Or.inr rfl)
      refine B_P_odds_18 (k1 := fun z => absurd z (by omega)) (k2 := fun _ => Cal_le (show 1 ≤ d + 6 by omega) (c_become (d := 0) (fun m1 hf1 h21 hv1 => B_P_odds_47 (k1 := ?_))))
      have hf2 : TFr μ (up m1 7 2 k 1) := (hf.tr hf1).u
      refine Cal_le (show 1 ≤ d + 6 by omega) (c_P_holder (d := 0) (hC.t hf2) (fun t hT => B_P_odds_70 (k1 := ?_)))
      refine c_Mo_goDays (by omega) hT hC.2.2.1 (V := putA V k 1) (by rw [vC_putA, hv1, (hC.t hf).1]) hV1 (by omega) (pp := -1) (by rw [up_k (by decide), h21]; exact h5) (fun m2 hf3 hv2 => B_P_odds_74 (k1 := ?_))
      have hf4 : QFr μ m2 := ⟨hf2.tr hf3.T, by rw [hf3.2.2, up_k (by decide), h21]; exact h5⟩
      refine Cal_le (show 1 ≤ d + 6 by omega) (c_Cr_width (d := 0) (B := 9999 + n) (by rw [hv2]; exact daysV_ok hV1 n z.1.1) ?_)
      rw [hv2]
      refine B_P_odds_81 (k1 := fun z => ih (m2, y) ⟨hf4, by rw [hst, if_neg z]⟩) (k2 := fun z => ih (m2, y + 1) ⟨hf4, by rw [hst, if_pos z]⟩)
    · rintro ⟨m, y⟩ ⟨hf, hy⟩
      dsimp only at hf hy ⊢
      have e2 := (hC.t hf.1).sz
      have hrg := oddC_rng (T := T) (V := V) (n := n) (vn V) hn.1
      rw [← hy] at hrg
      refine B_P_odds_18 (k1 := fun _ => Cal_le (show 1 ≤ d + 6 by omega) (c_P_low (d := 0) (by omega) (by omega) (B_P_odds_99 (k1 := ?_)))) (k2 := fun z => absurd z (by omega))
      rw [e2, hy]; exact h m hf
  · rw [hsz] at z
    rw [if_neg z] at h0; exact h0
end
