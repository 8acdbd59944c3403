section
variable {g : aG} {d : Nat} {μ m0 : aM} {Q : aQ} {p B a b n pp w x : Int} {T : TDt} {V V' : Vw}
theorem c_M_gone (hC : CM μ V T) (hg : gOk (μ 31 0 2)) (hW : WkOk (μ 55 0) (μ 56 0) (μ 31 0 39)) (h : ∀ μ', KFr μ μ' → Q (some (aI (goneV T V (μ 55 0) (μ 56 0) (μ 31 0 39) x))) μ') : Cal g (d + 8) m_M_gone [aR 31 0, aI x] μ Q := by
  have h0 := h μ (KFr.rf hC.2.2.2.2)
  unfold goneV at h h0
  refine T_M_gone (k1 := fun z => ?_) (k2 := fun z => ?_)
  · rw [if_pos (by omega)] at h
    refine Cal_le (show 1 ≤ d + 7 by omega) (c_M_save (d := 0) (fun m1 ht1 hv1 hg1 h25 => B_M_gone_16 (k1 := ?_)))
    refine loopR (n := μ 31 0 39) (fun k (m : aM) => Rn g (d + 7) m_M_gone 18 [some (aR 31 0), some (aI x), some (aI k)] [] m Q) (fun k m => (Trl μ m ∧ m 31 0 25 = -1 ∧ gOk (m 31 0 2)) ∧ vM m = goneK T V (μ 55 0) (μ 56 0) k) ?_ ?_ 0 m1 (by omega) hW.1.1 ⟨⟨ht1, h25.trans hC.2.2.2.2, by rw [hg1]; exact hg⟩, hv1.trans hC.1⟩
    · rintro k m k0 hk ⟨⟨ht, h5, hgm⟩, hv⟩ ih
      have e39 : m 31 0 39 = μ 31 0 39 := ht.1.2 39 (by decide) (by decide) (by decide) (by decide) (by decide) (by decide)
      have e55 : m 55 0 k = μ 55 0 k := by rw [ht.1.1 55 (by decide)]
      have e56 : m 56 0 k = μ 56 0 k := by rw [ht.1.1 56 (by decide)]
      have hwk := hW.2 k k0 hk
      have hn := hW.1
      have hVk := goneK_ok (T := T) (W := μ 55 0) (P := μ 56 0) hC.2.1 k k0
      have hst : goneK T V (μ 55 0) (μ 56 0) (k + 1) = gStep T (vM m) (μ 55 0 k) (μ 56 0 k) := by rw [hv]; exact goneK_s k0
      have hgoes : ∀ y, (y = 0 ∨ y = 1) → (μ 55 0 k = if y = 1 then 1 else 2) → Cal g (d + 7) m_M_goes [aR 31 0, aI (m 56 0 k), aI y] m (fun rv μ' => Rn g (d + 7) m_M_gone 79 [some (aR 31 0), some (aI x), some (aI k)] (optL rv ++ []) μ' Q) := fun y hy hw => by
        have hwne : μ 55 0 k ≠ 0 := by split at hw <;> omega
        refine Cal_le (show 1 ≤ d + 7 by omega) (c_M_goes (d := 0) hgm (by rw [e56]; exact hwk.2 hwne) hy (fun s hs hvs => ?_))
        have e55' : (up m 31 0 2 s) 55 0 k = μ 55 0 k := by rw [up_k (by decide)]; exact e55
        refine B_M_gone_79 (k1 := fun _ => ih _ ⟨⟨ht.u31, by rw [up_ne (by decide)]; exact h5, by rw [up_same]; exact hs⟩, ?_⟩) (k2 := fun z => ?_)
        · rw [hvs, hst, e56]
          unfold gStep
          rcases hy with e | e
          · subst e; rw [if_neg (by decide)] at hw; rw [if_neg hwne, if_neg (by omega), if_pos hw]
          · subst e; rw [if_pos rfl] at hw; rw [if_neg hwne, if_pos hw]
        · rw [e55'] at z; split at hw <;> omega
      refine B_M_gone_18 (k1 := fun z => absurd z (by omega)) (k2 := fun z => absurd z (by omega)) (k3 := fun _ z1 z2 z3 => absurd (show μ 55 0 k = 3 by omega) (by omega)) (k4 := fun _ z1 z2 z3 => ih _ ⟨⟨ht.u, by rw [up_k (by decide)]; exact h5, by rw [up_k (by decide)]; exact hgm⟩, ?_⟩) (k5 := fun _ z1 z2 z3 => hgoes 0 (Or.inl rfl) (by rw [if_neg (by decide)]; omega)) (k6 := fun _ z1 z2 z3 => hgoes 1 (Or.inr rfl) (by rw [if_pos rfl]; omega)) (k7 := fun _ z1 => ?_)
      · rw [vM_putO, hst, e56]
        unfold gStep
        rw [if_neg (by omega), if_neg (by omega), if_neg (by omega)]
      · refine c_M_goDay (B := 9999 + k) (hC.2.2.2.1.x ht.1) hC.2.2.1 hv hVk (by omega) h5 (fun m' hf' hm' _ => ?_)
        have f55 : m' 55 0 k = 0 := by rw [hf'.1 55 (by decide)]; exact z1
        refine B_M_gone_39 (k1 := fun _ _ => ih m' ⟨⟨ht.m hf', (hf'.2 25 (by decide) (by decide)).trans h5, by rw [hf'.2 2 (by decide) (by decide)]; exact hgm⟩, ?_⟩) (k2 := fun _ z => absurd z (by omega)) (k3 := fun z => absurd z (by omega)) (k4 := fun z => absurd z (by omega))
        rw [hm', hst, hv]
        unfold gStep
        rw [if_pos (by omega)]
    · rintro m ⟨⟨ht, h5, hgm⟩, hv⟩
      have e39 : m 31 0 39 = μ 31 0 39 := ht.1.2 39 (by decide) (by decide) (by decide) (by decide) (by decide) (by decide)
      have hVk := goneK_ok (T := T) (W := μ 55 0) (P := μ 56 0) hC.2.1 _ hW.1.1
      refine B_M_gone_18 (k1 := fun _ z => ?_) (k2 := fun _ z => ?_) (k3 := fun z => absurd z (by omega)) (k4 := fun z => absurd z (by omega)) (k5 := fun z => absurd z (by omega)) (k6 := fun z => absurd z (by omega)) (k7 := fun z => absurd z (by omega))
      · refine Cal_le (show 1 ≤ d + 7 by omega) (c_M_spread (d := 0) (by rw [hv]; exact hVk) (B_M_gone_122 (k1 := Cal_le (show 1 ≤ d + 7 by omega) (c_M_putBack (d := 0) ht (fun m' hk => B_M_gone_127 (k1 := ?_))))))
        have := h m' hk
        unfold wowV at this
        rw [if_neg z] at this
        rw [hv]; exact this
      · refine Cal_le (show 2 ≤ d + 7 by omega) (c_M_wrong (d := 0) (by rw [hv]; exact hVk) (B_M_gone_115 (k1 := Cal_le (show 1 ≤ d + 7 by omega) (c_M_putBack (d := 0) ht (fun m' hk => B_M_gone_127 (k1 := ?_))))))
        have := h m' hk
        unfold wowV at this
        rw [if_pos z] at this
        rw [hv]; exact this
  · rw [if_neg (by omega)] at h0; exact h0
end
