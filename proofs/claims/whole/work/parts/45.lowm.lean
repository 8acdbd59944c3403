section
variable {g : aG} {d : Nat} {μ m0 : aM} {Q : aQ} {a b x : Int}
theorem div_loop {u v : Int} (h : Q (some (aI (gcI a b))) μ) : ∀ (k : Nat) (p q : Int), q.toNat ≤ k → 0 ≤ p → p < 2147483648 → 0 ≤ q → q < 2147483648 → gcI p q = gcI a b → Rn g d m_M_divisor 5 [some (aR 31 0), some (aI u), some (aI v), some (aI p), some (aI q), none] [] μ Q := by
  intro k
  induction k with
  | zero =>
    intro p q hk p0 p1 q0 q1 e
    have hq : q = 0 := by omega
    refine B_M_divisor_5 (k1 := fun _ => ?_) (k2 := fun z => absurd hq z)
    have : gcI p q = p := by unfold gcI; rw [hq, Int.gcd_zero_right]; omega
    rw [← e, this] at h; exact h
  | succ k ih =>
    intro p q hk p0 p1 q0 q1 e
    refine B_M_divisor_5 (k1 := fun hq => ?_) (k2 := fun hq => ?_)
    · have : gcI p q = p := by unfold gcI; rw [hq, Int.gcd_zero_right]; omega
      rw [← e, this] at h; exact h
    · have hm := Int.emod_lt_of_pos p (show 0 < q by omega)
      have hm0 := Int.emod_nonneg p (show q ≠ 0 by omega)
      have er := i_rem_nn p0 p1 (show 0 < q by omega)
      rw [er]
      refine ih q (p % q) (by omega) q0 q1 hm0 (by omega) ?_
      rw [← e]
      unfold gcI
      obtain ⟨P, rfl⟩ : ∃ P : Nat, p = (P : Int) := ⟨p.toNat, by omega⟩
      obtain ⟨R, rfl⟩ : ∃ R : Nat, q = (R : Int) := ⟨q.toNat, by omega⟩
      have e1 : ((P : Int) % (R : Int)) = ((P % R : Nat) : Int) := by omega
      rw [e1]
      show ((Nat.gcd R (P % R) : Nat) : Int) = ((Nat.gcd P R : Nat) : Int)
      rw [Nat.gcd_comm P R, Nat.gcd_rec R P, Nat.gcd_comm]
theorem c_M_lowest (ha : 0 ≤ a ∧ a < 2147483648) (hb : 1 ≤ b ∧ b ≤ 6) (h : Q (some (aL (lowV a b x))) μ) : Cal g (d + 2) m_M_lowest [aR 31 0, aI a, aI b, aI x] μ Q := by
  have g1 := gcI_pos (a := a) (b := b) (by omega)
  refine T_M_lowest (k1 := T_M_divisor (k1 := div_loop ?_ b.toNat a b (Nat.le_refl _) ha.1 ha.2 (by omega) (by omega) rfl))
  unfold lowV at h
  refine B_M_lowest_6 (k1 := fun z => ?_) (k2 := fun z => ?_)
  · rw [if_neg z] at h; exact h
  · rw [if_pos z] at h; exact h
end
