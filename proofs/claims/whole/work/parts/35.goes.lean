/-! Who has gone, as bits. -/
theorem goes_tab : ∀ (s : Fin 64) (p i : Fin 6), ((0 ≤ b_or (s.val : Int) (b_shl 1 (p.val : Int)) ∧ b_or (s.val : Int) (b_shl 1 (p.val : Int)) < 64) ∧ bitF (b_or (s.val : Int) (b_shl 1 (p.val : Int))) (i.val : Int) = if i.val = p.val then 1 else bitF (s.val : Int) (i.val : Int)) ∧ ((0 ≤ b_and (s.val : Int) (b_xor (b_shl 1 (p.val : Int)) (-1)) ∧ b_and (s.val : Int) (b_xor (b_shl 1 (p.val : Int)) (-1)) < 64) ∧ bitF (b_and (s.val : Int) (b_xor (b_shl 1 (p.val : Int)) (-1))) (i.val : Int) = if i.val = p.val then 0 else bitF (s.val : Int) (i.val : Int)) := by decide +kernel
theorem bits_tab : ∀ (s : Fin 64), bitsF (bitF (s.val : Int)) = (s.val : Int) := by decide +kernel
def gOk (s : Int) : Prop := 0 ≤ s ∧ s < 64
theorem goes_at {s p i : Int} (hs : gOk s) (hp : 0 ≤ p ∧ p < 6) (hi : 0 ≤ i ∧ i < 6) : (gOk (b_or s (b_shl 1 p)) ∧ bitF (b_or s (b_shl 1 p)) i = pu (bitF s) p 1 i) ∧ (gOk (b_and s (b_xor (b_shl 1 p) (-1))) ∧ bitF (b_and s (b_xor (b_shl 1 p) (-1))) i = pu (bitF s) p 0 i) := by
  unfold gOk at hs
  have := goes_tab ⟨s.toNat, by omega⟩ ⟨p.toNat, by omega⟩ ⟨i.toNat, by omega⟩
  dsimp only at this
  rw [show ((s.toNat : Nat) : Int) = s by omega, show ((p.toNat : Nat) : Int) = p by omega, show ((i.toNat : Nat) : Int) = i by omega] at this
  have e : (i.toNat = p.toNat) ↔ i = p := by omega
  unfold gOk pu
  by_cases z : i = p
  · rw [if_pos (e.mpr z), if_pos (e.mpr z)] at this
    rw [if_pos z, if_pos z]; exact this
  · rw [if_neg (fun w => z (e.mp w)), if_neg (fun w => z (e.mp w))] at this
    rw [if_neg z, if_neg z]; exact this
theorem bits_at {s : Int} (hs : gOk s) : bitsF (bitF s) = s := by
  unfold gOk at hs
  have := bits_tab ⟨s.toNat, by omega⟩
  dsimp only at this
  rw [show ((s.toNat : Nat) : Int) = s by omega] at this
  exact this
theorem vM_gone {μ : aM} {p x s : Int} (h : ∀ i, 0 ≤ i → i < 6 → bitF s i = pu (bitF (μ 31 0 2)) p x i) : vM (up μ 31 0 2 s) = putA (vM μ) p x := by
  have e : vM (up μ 31 0 2 s) = setA (vM μ) (t6 (bitF s)) := by
    unfold vM setA
    rw [up_ne (by decide), up_ne (by decide), up_same, up_k (by decide), up_k (by decide), up_k (by decide), up_k (by decide), up_k (by decide)]
  rw [e]
  refine congrArg (setA (vM μ)) ((t6_ext h).trans (t6_pu t6_t6.symm))
section
variable {g : aG} {d : Nat} {μ m0 : aM} {Q : aQ} {p x : Int}
theorem c_M_goes (hg : gOk (μ 31 0 2)) (hp : 0 ≤ p ∧ p < 6) (hx : x = 0 ∨ x = 1) (h : ∀ s, gOk s → vM (up μ 31 0 2 s) = putA (vM μ) p x → Q none (up μ 31 0 2 s)) : Cal g (d + 1) m_M_goes [aR 31 0, aI p, aI x] μ Q := by
  refine T_M_goes (k1 := fun z => ?_) (k2 := fun z => ?_)
  · refine h _ (goes_at hg hp hp).2.1 (vM_gone (fun i h0 h6 => ?_))
    rw [z]; exact (goes_at hg hp ⟨h0, h6⟩).2.2
  · refine h _ (goes_at hg hp hp).1.1 (vM_gone (fun i h0 h6 => ?_))
    rw [show x = 1 by omega]; exact (goes_at hg hp ⟨h0, h6⟩).1.2
end
