section
variable {g : aG} {d : Nat} {μ m0 : aM} {Q : aQ} {p B a b n pp w x : Int} {T : TDt} {V V' : Vw}
theorem c_P_isAsSeen (hC : CC μ V T) (hv : vC μ 2 = V') (hV : VOk 9999 V') (hpp : μ 21 0 5 = -1) (hS : SnOk (μ 10 0) (μ 12 0) (μ 9 0 1)) (h : ∀ μ', QFr μ μ' → Q (some (aI (b2 (seenB T V' (μ 10 0) (μ 11 0) (μ 12 0) (μ 9 0 1))))) μ') : Cal g (d + 6) m_P_isAsSeen [aR 0 0] μ Q := by
  have hn := hS.1
  obtain ⟨hl, hle⟩ := lastD_sp (D := μ 12 0) (μ 9 0 1) hn.1 (fun k k0 k1 => (hS.2 k k0 k1).2)
  generalize hL : lastD (μ 12 0) (μ 9 0 1) = L at *
  refine T_P_isAsSeen (k1 := Cal_le (show 1 ≤ d + 5 by omega) (c_No_mostDays (d := 0) hn (fun k k0 k1 => (hS.2 k k0 k1).2) (B_P_isAsSeen_10 (k1 := ?_)) rfl))
  rw [hL]
  have yes : ∀ m, QFr μ m → (∀ j, 0 ≤ j → j < μ 9 0 1 → vo (daysV T (-1) V' (μ 12 0 j)) (μ 10 0 j) = μ 11 0 j) → Q (some (aI 1)) m := fun m hf hq => by
    have := h m hf
    rw [(seenB_iff (μ 9 0 1) hn.1).mpr hq] at this; exact this
  have no : ∀ m, QFr μ m → ¬ (∀ j, 0 ≤ j → j < μ 9 0 1 → vo (daysV T (-1) V' (μ 12 0 j)) (μ 10 0 j) = μ 11 0 j) → Q (some (aI 0)) m := fun m hf hq => by
    have := h m hf
    rw [Bool.eq_false_iff.mpr (fun w => hq ((seenB_iff (μ 9 0 1) hn.1).mp w))] at this; exact this
  refine loopR (n := L + 1) (fun k (m : aM) => Rn g (d + 5) m_P_isAsSeen 13 [some (aR 0 0), some (aI L), some (aI k)] [] m Q) (fun k m => QFr μ m ∧ (k ≤ L → vC m 2 = daysV T (-1) V' k) ∧ ∀ j, 0 ≤ j → j < μ 9 0 1 → μ 12 0 j < k → vo (daysV T (-1) V' (μ 12 0 j)) (μ 10 0 j) = μ 11 0 j) ?_ ?_ 0 μ (by omega) (by omega) ⟨⟨TFr.rf, hpp⟩, fun _ => hv, fun j j0 j1 z => absurd z (by have := (hS.2 j j0 j1).2; omega)⟩
  · rintro k m k0 hk ⟨⟨hf, h5⟩, hm, hq⟩ ih
    have hm := hm (by omega)
    have e9 : m 9 = μ 9 := hf.k
    have e10 : m 10 = μ 10 := hf.k
    have e11 : m 11 = μ 11 := hf.k
    have e12 : m 12 = μ 12 := hf.k
    refine B_P_isAsSeen_13 (k1 := fun z => absurd z (by omega)) (k2 := fun _ => Cal_le (show 1 ≤ d + 5 by omega) (c_P_behind (d := 0) hm (by rw [e9, e10, e12]; exact hS) (fun s hs => ?_)))
    rw [e9, e10, e11, e12] at hs
    have nq : s = 1 → ∀ j, 0 ≤ j → j < μ 9 0 1 → μ 12 0 j < k + 1 → vo (daysV T (-1) V' (μ 12 0 j)) (μ 10 0 j) = μ 11 0 j := fun hs1 j j0 j1 z => by
      rcases hs with ⟨y, _⟩ | ⟨_, y⟩
      · omega
      · by_cases e : μ 12 0 j = k
        · rw [e]; exact y j j0 j1 e
        · exact hq j j0 j1 (by omega)
    have hs01 : s = 0 ∨ s = 1 := by rcases hs with ⟨y, _⟩ | ⟨y, _⟩ <;> omega
    refine B_P_isAsSeen_23 (k1 := fun z1 z2 => ih m ⟨⟨hf, h5⟩, fun z => absurd z (by omega), nq (by omega)⟩) (k2 := fun z1 z2 => Cal_le (show 1 ≤ d + 5 by omega) (c_P_holder (d := 0) (hC.t hf) (fun t hT => B_P_isAsSeen_45 (k1 := ?_)))) (k3 := fun z => no m ⟨hf, h5⟩ (fun w => ?_))
    · refine c_Mo_goDay (B := 9999 + k) hT hC.2.2.1 hm (daysV_ok hV k k0) (by omega) h5 (fun m' hf' hm' _ => B_P_isAsSeen_48 (k1 := ih m' ⟨⟨hf.tr hf'.T, hf'.2.2.trans h5⟩, fun _ => ?_, nq (by omega)⟩))
      rw [hm', daysV_s k0]
    · rcases hs with ⟨_, y⟩ | ⟨y, _⟩
      · exact y (fun j j0 j1 z => by have := w j j0 j1; rw [z] at this; exact this)
      · omega
  · rintro m ⟨hf, hm, hq⟩
    exact B_P_isAsSeen_13 (k1 := fun _ => yes m hf (fun j j0 j1 => hq j j0 j1 (by have := hle j j0 j1; omega))) (k2 := fun z => absurd z (by omega))
theorem c_M_isSeen (hC : CM μ V T) (hS : SnOk (μ 52 0) (μ 54 0) (μ 31 0 35)) (h : ∀ μ', KFr μ μ' → Q (some (aI (b2 (seenB T V (μ 52 0) (μ 53 0) (μ 54 0) (μ 31 0 35))))) μ') : Cal g (d + 9) m_M_isSeen [aR 31 0] μ Q := by
  have hn := hS.1
  have no : ∀ m, KFr μ m → ¬ (∀ j, 0 ≤ j → j < μ 31 0 35 → vo (daysV T (-1) V (μ 54 0 j)) (μ 52 0 j) = μ 53 0 j) → Q (some (aI 0)) m := fun m hf hq => by
    have := h m hf
    rw [Bool.eq_false_iff.mpr (fun w => hq ((seenB_iff (μ 31 0 35) hn.1).mp w))] at this; exact this
  refine T_M_isSeen (k1 := loopR (n := μ 31 0 35) (fun k (m : aM) => Rn g (d + 8) m_M_isSeen 4 [some (aR 31 0), some (aI 1), some (aI k)] [] m Q) (fun k m => KFr μ m ∧ ∀ j, 0 ≤ j → j < k → vo (daysV T (-1) V (μ 54 0 j)) (μ 52 0 j) = μ 53 0 j) ?_ ?_ 0 μ (by omega) hn.1 ⟨KFr.rf hC.2.2.2.2, fun j h0 h1 => absurd h1 (by omega)⟩)
  · rintro k m k0 hk ⟨hkf, hq⟩ ih
    have hCm := hC.k hkf
    have e35 : m 31 0 35 = μ 31 0 35 := hkf.1.2 35 (by decide) (by decide) (by decide) (by decide) (by decide) (by decide)
    have hs := hS.2 k k0 hk
    refine B_M_isSeen_4 (k1 := fun z => absurd z (by omega)) (k2 := fun _ z => absurd z (by decide)) (k3 := fun _ _ => Cal_le (show 1 ≤ d + 8 by omega) (c_M_save (d := 0) (fun m1 ht1 hv1 _ h25 => B_M_isSeen_20 (k1 := ?_))))
    have e54 : m1 54 0 k = μ 54 0 k := by rw [ht1.1.1 54 (by decide), hkf.1.1 54 (by decide)]
    rw [e54]
    refine c_M_goDays (by omega) (hCm.2.2.2.1.x ht1.1) hC.2.2.1 (hv1.trans hCm.1) hC.2.1 (by omega) (h25.trans hCm.2.2.2.2) (fun m2 hf hm => ?_)
    have ht := ht1.m hf
    have e52 : m2 52 0 k = μ 52 0 k := by rw [ht.1.1 52 (by decide), hkf.1.1 52 (by decide)]
    have e53 : m2 53 0 k = μ 53 0 k := by rw [ht.1.1 53 (by decide), hkf.1.1 53 (by decide)]
    have ev : vo (daysV T (-1) V (μ 54 0 k)) (μ 52 0 k) = m2 35 0 (μ 52 0 k) := by rw [← hm]; exact vo_M hs.1.1 hs.1.2
    refine B_M_isSeen_30 (k1 := fun z => Cal_le (show 1 ≤ d + 8 by omega) (c_M_putBack (d := 0) ht (fun m3 hk3 => B_M_isSeen_60 (k1 := ?_)))) (k2 := fun z => Cal_le (show 1 ≤ d + 8 by omega) (c_M_putBack (d := 0) ht (fun m3 hk3 => B_M_isSeen_60 (k1 := ih m3 ⟨hkf.tr hk3, fun j j0 j1 => ?_⟩))))
    · have hbad : ¬ (∀ j, 0 ≤ j → j < μ 31 0 35 → vo (daysV T (-1) V (μ 54 0 j)) (μ 52 0 j) = μ 53 0 j) := fun w => by
        have := w k k0 hk
        rw [ev, ← e53, ← e52] at this
        rw [e52] at this z
        exact z this
      have hQ := no m3 (hkf.tr hk3) hbad
      exact B_M_isSeen_4 (k1 := fun _ => hQ) (k2 := fun _ _ => hQ) (k3 := fun _ z => absurd rfl z)
    · by_cases e : j = k
      · rw [e, ev]; rw [e52, e53] at z; exact z
      · exact hq j j0 (by omega)
  · rintro m ⟨hkf, hq⟩
    have e35 : m 31 0 35 = μ 31 0 35 := hkf.1.2 35 (by decide) (by decide) (by decide) (by decide) (by decide) (by decide)
    refine B_M_isSeen_4 (k1 := fun _ => ?_) (k2 := fun z => absurd z (by omega)) (k3 := fun z => absurd z (by omega))
    have := h m hkf
    rw [(seenB_iff (μ 31 0 35) hn.1).mpr hq] at this; exact this
end
