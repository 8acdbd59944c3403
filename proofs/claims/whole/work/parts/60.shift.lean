/-! From one tape to another. -/
section
variable {g : aG} {d : Nat} {μ m0 : aM} {Q : aQ} {n i t j o : Int}
theorem l_M_shift (ht : 0 ≤ t ∧ t < 6) (ho : 0 ≤ o ∧ o < 6) (hi : 0 ≤ i ∧ i + n ≤ 60) (hj : 0 ≤ j ∧ j + n ≤ 60) (hn : 0 ≤ n) (h : ∀ m, Tch (fun k i' j' => k = 75 ∨ (k = 74 ∧ i' = 0 ∧ 60 * o + j ≤ j' ∧ j' < 60 * o + j + n)) m0 m → (∀ q, 0 ≤ q → q < n → m 74 0 (60 * o + j + q) = m0 74 0 (60 * t + i + q)) → Q (some (aI n)) m) : Rn g (d + 2) m_M_shift 104 [some (aR 31 0), some (aI t), some (aI i), some (aI o), some (aI j), some (aI n), some (aI 0)] [] m0 Q := by
  refine loopR (n := n) (fun p (m : aM) => Rn g (d + 2) m_M_shift 104 [some (aR 31 0), some (aI t), some (aI i), some (aI o), some (aI j), some (aI n), some (aI p)] [] m Q) (fun p m => Tch (fun k _ _ => k = 75) m0 m ∧ (∀ q, 0 ≤ q → q < p → m 75 0 q = m0 74 0 (60 * t + i + q))) ?_ ?_ 0 _ (by omega) hn ⟨Tch.rf, fun i i0 i1 => absurd i1 (by omega)⟩
  · rintro p m p0 p1 ⟨t1, h3⟩ ih
    refine B_M_shift_104 (k1 := fun z => absurd z (by omega)) (k2 := fun _ => ih _ ⟨t1.up (by omega), fun q q0 q1 => ?_⟩)
    by_cases e : q = p
    · rw [e, up_same]; exact t1 74 0 _ (show (74 : Nat) ≠ 75 by decide)
    · rw [up_ne e]; exact h3 q q0 (by omega)
  · rintro m ⟨t1, h3⟩
    refine B_M_shift_104 (k1 := fun _ => ?_) (k2 := fun z => absurd z (by omega))
    refine loopR (n := n) (fun p (m : aM) => Rn g (d + 2) m_M_shift 141 [some (aR 31 0), some (aI t), some (aI i), some (aI o), some (aI j), some (aI n), some (aI p)] [] m Q) (fun p m' => Tch (fun k i' j' => k = 74 ∧ i' = 0 ∧ 60 * o + j ≤ j' ∧ j' < 60 * o + j + n) m m' ∧ (∀ q, 0 ≤ q → q < p → m' 74 0 (60 * o + j + q) = m0 74 0 (60 * t + i + q))) ?_ ?_ 0 _ (by omega) hn ⟨Tch.rf, fun i i0 i1 => absurd i1 (by omega)⟩
    · rintro p m' p0 p1 ⟨t2, h4⟩ ih
      refine B_M_shift_141 (k1 := fun z => absurd z (by omega)) (k2 := fun _ => ih _ ⟨t2.up (by omega), fun q q0 q1 => ?_⟩)
      by_cases e : q = p
      · rw [e, up_same, t2 75 0 p (by omega)]; exact h3 p p0 p1
      · rw [up_ne (by omega)]; exact h4 q q0 (by omega)
    · rintro m' ⟨t2, h4⟩
      exact B_M_shift_141 (k1 := fun _ => h m' (Tch.tr (fun k i j z => t1 k i j (by omega)) (fun k i j z => t2 k i j (by omega))) h4) (k2 := fun z => absurd z (by omega))
theorem j_shift (hI : Inv μ) (hn : -2147483648 ≤ n ∧ n < 2147483648) : Pair g 40 m_P_shift m_M_shift [aI t, aI i, aI o, aI j, aI n] μ := by
  intro Q h
  by_cases ht : 0 ≤ t ∧ t < 6
  · by_cases ho : 0 ≤ o ∧ o < 6
    · obtain ⟨⟨e1, e2⟩, e3, e4, -, e6⟩ := hI.ta t ht.1 ht.2
      obtain ⟨⟨c1, c2⟩, c3, c4, c5, c6⟩ := hI.ta o ho.1 ho.2
      by_cases hr : (μ 29 t 0 ≠ -1 ∧ μ 29 o 0 ≠ -1) ∧ μ 29 t 0 = μ 29 o 0 ∧ (0 ≤ i ∧ 0 ≤ n ∧ n ≤ μ 29 t 1 ∧ i + n ≤ μ 29 t 1) ∧ (0 ≤ j ∧ 0 ≤ n ∧ n ≤ μ 29 o 1 ∧ j + n ≤ μ 29 o 1)
      · obtain ⟨⟨r1, r2⟩, r3, r4, r5⟩ := hr
        refine T_P_shift (d := 38) (k1 := fun z => absurd ht z) (k2 := fun _ _ z => absurd z r1) (k3 := fun _ _ _ _ _ z => absurd r4 z) (k4 := fun _ _ _ _ _ _ _ => h _ _ (fun Q' h' => ?_)) (k5 := fun _ _ _ _ _ _ z => absurd r5 z) (k6 := fun _ _ _ _ z => absurd r3 z) (k7 := fun _ _ _ z => absurd z r2) (k8 := fun _ z => absurd ho z)
        have f0 : ∀ k, k ≠ 30 → cp μ 30 t i 30 o j n k = μ k := fun k hk => by
          funext i' j'; unfold cp; rw [if_neg (fun z => hk z.1)]
        have fin := l_M_shift (g := g) (d := 37) (m0 := cp μ 30 t i 30 o j n) (Q := Q') (t := t) (o := o) (i := i) (j := j) (n := n) ht ho (by omega) (by omega) r4.2.1 (fun m tm hm => h' m (hI.tape (t0 := o) ho (Tch.tr (fun k i' j' hx => ?_) (fun k i' j' hx => tm k i' j' (by omega))) ?_))
        · have g1 : cp μ 30 t i 30 o j n 72 = μ 72 := f0 72 (by decide)
          have g2 : cp μ 30 t i 30 o j n 73 = μ 73 := f0 73 (by decide)
          refine T_M_shift (d := 37) (b1 := by clear fin h h' hI c5 e6 c6; intros; omega) (b2 := by clear fin h h' hI c5 e6 c6; intros; omega) (b3 := by clear fin h h' hI c5 e6 c6; intros; omega) (b4 := by clear fin h h' hI c5 e6 c6; intros; omega) (b5 := by clear fin h h' hI c5 e6 c6; intros; omega) (b6 := by rw [g2]; clear fin h h' hI c5 e6 c6; intros; omega) (b7 := by clear fin h h' hI c5 e6 c6; intros; omega) (b8 := by rw [g2]; clear fin h h' hI c5 e6 c6; intros; omega) (k1 := ?_) (k2 := ?_) (k3 := ?_) (k4 := ?_) (k5 := ?_) (k6 := ?_) (k7 := ?_) (k8 := ?_) (k9 := ?_) (k10 := ?_) (k11 := ?_)
          all_goals try simp only [g1, g2]
          all_goals clear h h' hI c5 e6 c6
          all_goals (intros; first | exact fin | (exfalso; clear fin; omega))
        · show cp μ 30 t i 30 o j n k i' j' = _
          unfold cp; rw [if_neg (by omega)]
        · have w : ∀ k i' j', k ≠ 75 → k ≠ 74 → m k i' j' = cp μ 30 t i 30 o j n k i' j' := fun k i' j' z1 z2 => tm k i' j' (by omega)
          unfold TA1
          rw [w 72 0 o (by decide) (by decide), w 73 0 o (by decide) (by decide), w 29 o 0 (by decide) (by decide), w 29 o 1 (by decide) (by decide), f0 72 (by decide), f0 73 (by decide), f0 29 (by decide)]
          refine ⟨⟨c1, c2⟩, c3, c4, c5, fun q q0 q1 => ?_⟩
          rw [w 30 o q (by decide) (by decide)]
          by_cases e : j ≤ q ∧ q < j + n
          · have := hm (q - j) (by omega) (by omega)
            rw [show 60 * o + j + (q - j) = 60 * o + q by omega, f0 74 (by decide), show 60 * t + i + (q - j) = 60 * t + (i + (q - j)) by omega, e6 _ (by omega) (by omega)] at this
            rw [this]
            unfold cp; rw [if_pos ⟨rfl, rfl, e.1, e.2⟩]
          · rw [tm 74 0 (60 * o + q) (by omega), f0 74 (by decide), c6 q q0 q1]
            unfold cp; rw [if_neg (fun z => e z.2.2)]
      · refine T_P_shift (d := 38) (b3 := by clear h hI c5 e6 c6; intros; omega) (b4 := by clear h hI c5 e6 c6; intros; omega) (b5 := by clear h hI c5 e6 c6; intros; omega) (k1 := fun z => absurd ht z) (k2 := fun _ _ z => h _ _ (fun Q' h' => ?_)) (k3 := fun _ _ z1 z2 z3 z4 => h _ _ (fun Q' h' => ?_)) (k4 := fun _ _ z1 z2 z3 z4 z5 => absurd ⟨⟨z1, z2⟩, z3, z4, z5⟩ hr) (k5 := fun _ _ z1 z2 z3 z4 z5 => h _ _ (fun Q' h' => ?_)) (k6 := fun _ _ z1 z2 z3 => h _ _ (fun Q' h' => ?_)) (k7 := fun _ _ z1 z2 => h _ _ (fun Q' h' => ?_)) (k8 := fun _ z => absurd ho z)
        all_goals have h2 := h' μ hI
        all_goals clear h h' hr hI c5 c6 e6
        all_goals refine T_M_shift (d := 37) (b1 := by clear h2; intros; omega) (b2 := by clear h2; intros; omega) (b3 := by clear h2; intros; omega) (b4 := by clear h2; intros; omega) (b5 := by clear h2; intros; omega) (b6 := by clear h2; intros; omega) (b7 := by clear h2; intros; omega) (b8 := by clear h2; intros; omega) (k1 := ?_) (k2 := ?_) (k3 := ?_) (k4 := ?_) (k5 := ?_) (k6 := ?_) (k7 := ?_) (k8 := ?_) (k9 := ?_) (k10 := ?_) (k11 := ?_)
        all_goals (intros; first | exact h2 | (exfalso; clear h2; omega))
    · refine T_P_shift (d := 38) (b3 := fun _ z => absurd z ho) (b4 := fun _ z => absurd z ho) (b5 := fun _ z => absurd z ho) (k1 := fun z => absurd ht z) (k2 := fun _ z => absurd z ho) (k3 := fun _ z => absurd z ho) (k4 := fun _ z => absurd z ho) (k5 := fun _ z => absurd z ho) (k6 := fun _ z => absurd z ho) (k7 := fun _ z => absurd z ho) (k8 := fun _ z => h _ _ (fun Q' h' => ?_))
      have h2 := h' μ hI
      clear h h' hI
      refine T_M_shift (d := 37) (k1 := ?_) (k2 := ?_) (k3 := ?_) (k4 := ?_) (k5 := ?_) (k6 := ?_) (k7 := ?_) (k8 := ?_) (k9 := ?_) (k10 := ?_) (k11 := ?_)
      all_goals (intros; first | exact h2 | (exfalso; omega))
  · refine T_P_shift (d := 38) (b3 := fun z => absurd z ht) (b4 := fun z => absurd z ht) (b5 := fun z => absurd z ht) (k1 := fun z => h _ _ (fun Q' h' => ?_)) (k2 := fun z => absurd z ht) (k3 := fun z => absurd z ht) (k4 := fun z => absurd z ht) (k5 := fun z => absurd z ht) (k6 := fun z => absurd z ht) (k7 := fun z => absurd z ht) (k8 := fun z => absurd z ht)
    have h2 := h' μ hI
    clear h h' hI
    refine T_M_shift (d := 37) (k1 := ?_) (k2 := ?_) (k3 := ?_) (k4 := ?_) (k5 := ?_) (k6 := ?_) (k7 := ?_) (k8 := ?_) (k9 := ?_) (k10 := ?_) (k11 := ?_)
    all_goals (intros; first | exact h2 | (exfalso; omega))
end
