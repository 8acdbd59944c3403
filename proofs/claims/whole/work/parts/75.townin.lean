/-! What stands behind a call of town. -/
section
variable {g : aG} {d : Nat} {μ m0 : aM} {Q : aQ} {x f a b t c n p w o l fr : Int} {ch : Int → Int} {P : Int → Rs} {T : TDt}
theorem Inv.town {m : aM} (hI : Inv μ) (ht : t = μ 0 0 5) (h6 : t < 6) (tm : Tch (XW t) μ m) (hn : m 0 0 5 = t ∨ (m 0 0 5 = t + 1 ∧ T1 m t)) (h8 : m 31 0 8 = m 0 0 5) (hh : (m 1 0 4 = μ 1 0 4 ∧ m 31 0 9 = μ 31 0 9) ∨ (m 0 0 5 = t + 1 ∧ m 1 0 4 = t ∧ m 31 0 9 = t)) (h19 : m 19 0 1 = 0) (h10 : m 31 0 10 = 0) : Inv m := by
  obtain ⟨w1, w2, w3, w4, w5⟩ := hI.tw
  obtain ⟨⟨g1, g2, g3⟩, g4, g5, g6⟩ := hI.ho
  have old : ∀ s, 0 ≤ s → s < t → T1 m s := fun s s0 s1 => (w3 s s0 (by omega)).mv tm (fun k i j z z2 => by unfold dT1 at z; unfold XW at z2; omega)
  have e6 : TT m 6 = TT μ 6 := TT.eq tm (fun k i j z z2 => by unfold dT1 at z; unfold XW at z2; omega)
  have c6 : CTn m 6 (TT m 6) := by rw [e6]; exact w4.mv tm (fun k i j k1 k2 k3 z2 => by unfold XW at z2; omega)
  have tw : TWN m := by
    refine ⟨by omega, h8, fun s s0 s1 => ?_, c6, by rw [tm 14 6 0 (by unfold XW; omega)]; exact w5⟩
    rcases hn with hn | ⟨hn, hT⟩
    · exact old s s0 (by omega)
    · by_cases e : s = t
      · rw [e]; exact hT
      · exact old s s0 (by omega)
  have ho : HO m := by
    refine ⟨by omega, ?_⟩
    rw [tm 31 0 46 (by unfold XW; omega), tm 1 1 4 (by unfold XW; omega)]
    omega
  have tx : TX m := ⟨by rw [h10, h19], by omega, fun i i0 i1 => absurd i1 (by omega)⟩
  exact hI.go tm (pe := Or.inr (by intro k i j h1 h2; unfold dPE at h1; unfold XW at h2; omega)) (pk := Or.inr (by intro k i j h1 h2; unfold dPK at h1; unfold XW at h2; omega)) (tw := Or.inl tw) (ho := Or.inl ho) (im := Or.inr (by intro k i j h1 h2; unfold dIM at h1; unfold XW at h2; omega)) (tx := Or.inl tx) (sn := Or.inr (by intro k i j h1 h2; unfold dSN at h1; unfold XW at h2; omega)) (wk := Or.inr (by intro k i j h1 h2; unfold dWK at h1; unfold XW at h2; omega)) (bk := Or.inr (by intro k i j h1 h2; unfold dBK at h1; unfold XW at h2; omega)) (nk := Or.inr (by intro k i j h1 h2; unfold dNK at h1; unfold XW at h2; omega)) (mo := Or.inr (by intro k i j h1 h2; unfold dMO at h1; unfold XW at h2; omega)) (ac := Or.inr (by intro k i j h1 h2; unfold dAC at h1; unfold XW at h2; omega)) (ta := Or.inr (by intro k i j h1 h2; unfold dTA at h1; unfold XW at h2; omega)) (mi := Or.inr (by intro k i j h1 h2; unfold dMI at h1; unfold XW at h2; omega))
end
