/-! The tapes. -/
def TA1 (μ : aM) (t : Int) : Prop := (μ 72 0 t = μ 29 t 0 ∧ μ 73 0 t = μ 29 t 1) ∧ (-1 ≤ μ 29 t 0 ∧ μ 29 t 0 ≤ 4) ∧ (0 ≤ μ 29 t 1 ∧ μ 29 t 1 ≤ 60) ∧ (μ 29 t 0 = -1 → μ 29 t 1 = 0) ∧ ∀ i, 0 ≤ i → i < 60 → μ 74 0 (60 * t + i) = μ 30 t i
def jF (μ : aM) (t i p : Int) : Int := if i < 0 ∨ μ 29 t 1 - i ≤ p then 100 + p else if μ 30 t (i + p) = μ 6 0 p then -5 else p
section
variable {g : aG} {d : Nat} {μ m0 : aM} {Q : aQ} {p w x n a b r k v u o i t j s z t0 : Int}
theorem TA1.mv {X : Nat → Int → Int → Prop} {m : aM} (tch : Tch X μ m) (hd : ∀ k i j, ((29 ≤ k ∧ k ≤ 30 ∧ i = t) ∨ (i = 0 ∧ ((72 ≤ k ∧ k ≤ 73 ∧ j = t) ∨ (k = 74 ∧ 60 * t ≤ j ∧ j < 60 * t + 60)))) → ¬ X k i j) (h : TA1 μ t) : TA1 m t := by
  unfold TA1 at h ⊢
  rw [tch 72 0 t (hd _ _ _ (by omega)), tch 73 0 t (hd _ _ _ (by omega)), tch 29 t 0 (hd _ _ _ (by omega)), tch 29 t 1 (hd _ _ _ (by omega))]
  refine ⟨h.1, h.2.1, h.2.2.1, h.2.2.2.1, fun i i0 i1 => ?_⟩
  rw [tch 74 0 (60 * t + i) (hd _ _ _ (by omega)), tch 30 t i (hd _ _ _ (by omega))]
  exact h.2.2.2.2 i i0 i1
theorem Inv.tape {m : aM} (hI : Inv μ) (h0 : 0 ≤ t0 ∧ t0 < 6) (tch : Tch (fun k i j => k = 75 ∨ (29 ≤ k ∧ k ≤ 30 ∧ i = t0) ∨ (i = 0 ∧ ((72 ≤ k ∧ k ≤ 73 ∧ j = t0) ∨ (k = 74 ∧ 60 * t0 ≤ j ∧ j < 60 * t0 + 60)))) μ m) (h : TA1 m t0) : Inv m := by
  refine hI.go tch (ta := Or.inl (fun t h1 h2 => ?_))
  by_cases e : t = t0
  · rw [e]; exact h
  · exact TA1.mv tch (fun k i j z => by omega) (hI.ta t h1 h2)
theorem c_Tp_hold (h : ∀ m, Tch (fun k i _ => 29 ≤ k ∧ k ≤ 30 ∧ i = a) μ m → m 29 a 0 = s → m 29 a 1 = n → (∀ i, 0 ≤ i → i < 60 → m 30 a i = 0) → Q none m) : Cal g (d + 1) m_Tp_hold [aR 29 a, aI s, aI n] μ Q := by
  refine T_Tp_hold (k1 := loopR (n := 60) (fun p (m : aM) => Rn g d m_Tp_hold 12 [some (aR 29 a), some (aI s), some (aI n), some (aI p)] [] m Q) (fun p m => Tch (fun k i _ => 29 ≤ k ∧ k ≤ 30 ∧ i = a) μ m ∧ m 29 a 0 = s ∧ m 29 a 1 = n ∧ (∀ i, 0 ≤ i → i < p → m 30 a i = 0)) ?_ ?_ 0 _ (by omega) (by omega) ⟨(Tch.rf.up (by omega)).up (by omega), by rw [up_ne (by decide), up_same], up_same, fun i i0 i1 => absurd i1 (by omega)⟩)
  · rintro p m p0 p1 ⟨t1, h1, h2, h3⟩ ih
    refine B_Tp_hold_12 (k1 := fun z => absurd z (by omega)) (k2 := fun _ => ih _ ⟨t1.up (by omega), (up_other (by decide)).trans h1, (up_other (by decide)).trans h2, fun i i0 i1 => ?_⟩)
    by_cases e : i = p
    · rw [e, up_same]
    · rw [up_ne e]; exact h3 i i0 (by omega)
  · rintro m ⟨t1, h1, h2, h3⟩
    exact B_Tp_hold_12 (k1 := fun _ => h m t1 h1 h2 h3) (k2 := fun z => absurd z (by omega))
theorem l_M_tape (ht : 0 ≤ t ∧ t < 6) (h : ∀ m, Tch (fun k i j => k = 74 ∧ i = 0 ∧ 60 * t ≤ j ∧ j < 60 * t + 60) m0 m → (∀ i, 0 ≤ i → i < 60 → m 74 0 (60 * t + i) = 0) → Q (some (aI 1)) m) : Rn g (d + 2) m_M_tape 69 [some (aR 31 0), some (aI t), some (aI s), some (aI n), some (aI 0)] [] m0 Q := by
  refine loopR (n := 60) (fun p (m : aM) => Rn g (d + 2) m_M_tape 69 [some (aR 31 0), some (aI t), some (aI s), some (aI n), some (aI p)] [] m Q) (fun p m => Tch (fun k i j => k = 74 ∧ i = 0 ∧ 60 * t ≤ j ∧ j < 60 * t + 60) m0 m ∧ (∀ i, 0 ≤ i → i < p → m 74 0 (60 * t + i) = 0)) ?_ ?_ 0 _ (by omega) (by omega) ⟨Tch.rf, fun i i0 i1 => absurd i1 (by omega)⟩
  · rintro p m p0 p1 ⟨t1, h3⟩ ih
    refine B_M_tape_69 (k1 := fun z => absurd z (by omega)) (k2 := fun _ => ih _ ⟨t1.up (by omega), fun i i0 i1 => ?_⟩)
    by_cases e : i = p
    · rw [e, up_same]
    · rw [up_ne (by omega)]; exact h3 i i0 (by omega)
  · rintro m ⟨t1, h3⟩
    exact B_M_tape_69 (k1 := fun _ => h m t1 h3) (k2 := fun z => absurd z (by omega))
theorem j_tape (hI : Inv μ) : Pair g 40 m_P_tape m_M_tape [aI t, aI s, aI n] μ := by
  intro Q h
  have fin : ∀ s n : Int, (0 ≤ t ∧ t < 6) → (-1 ≤ s ∧ s ≤ 4) → (0 ≤ n ∧ n ≤ 60) → (s = -1 → n = 0) → ∀ (x2 x3 : Int) (m1 : aM) (Q' : aQ), Tch (fun k i _ => 29 ≤ k ∧ k ≤ 30 ∧ i = t) μ m1 → m1 29 t 0 = s → m1 29 t 1 = n → (∀ i, 0 ≤ i → i < 60 → m1 30 t i = 0) → (∀ m2, Inv m2 → Q' (some (aI 1)) m2) → Rn g 39 m_M_tape 69 [some (aR 31 0), some (aI t), some (aI x2), some (aI x3), some (aI 0)] [] (up (up m1 72 0 t s) 73 0 t n) Q' := by
    intro s n ht hs hn hsn x2 x3 m1 Q' t1 h1 h2 h3 hQ
    refine l_M_tape (d := 37) ht (fun m2 t2 hz => hQ m2 (hI.tape (t0 := t) ht ?_ ?_))
    · exact Tch.tr ((Tch.tr (Tch.rf) (fun k i j hx => t1 k i j (fun z => hx (by omega))) |>.up (by omega)).up (by omega)) (fun k i j hx => t2 k i j (fun z => hx (by omega)))
    · have c : ∀ k i j, k ≠ 74 → m2 k i j = up (up m1 72 0 t s) 73 0 t n k i j := fun k i j hk => t2 k i j (by omega)
      unfold TA1
      rw [c 72 0 t (by decide), c 73 0 t (by decide), c 29 t 0 (by decide), c 29 t 1 (by decide), up_same, up_other (show (72 : Nat) ≠ 73 by decide), up_same, up_other (show (29 : Nat) ≠ 73 by decide), up_other (show (29 : Nat) ≠ 72 by decide), up_other (show (29 : Nat) ≠ 73 by decide), up_other (show (29 : Nat) ≠ 72 by decide), h1, h2]
      refine ⟨⟨rfl, rfl⟩, hs, hn, hsn, fun i i0 i1 => ?_⟩
      rw [hz i i0 i1, c 30 t i (by decide), up_other (by decide), up_other (by decide), h3 i i0 i1]
  refine T_P_tape (d := 38) (k1 := fun z1 z2 z3 => h _ _ (fun Q' h' => ?_)) (k2 := fun z1 z2 z3 z4 => h _ _ (fun Q' h' => ?_)) (k3 := fun z1 z2 z3 z4 z5 z6 => c_Tp_hold (d := 38) (fun m1 t1 h1 h2 h3 => B_P_tape_63 (k1 := h _ _ (fun Q' h' => ?_)))) (k4 := fun z1 z2 z3 z4 z5 z6 => h _ _ (fun Q' h' => ?_)) (k5 := fun z1 z2 z3 z4 z5 => h _ _ (fun Q' h' => ?_)) (k6 := fun z1 z2 => c_Tp_hold (d := 38) (fun m1 t1 h1 h2 h3 => B_P_tape_25 (k1 := h _ _ (fun Q' h' => ?_)))) (k7 := fun z1 => h _ _ (fun Q' h' => ?_))
  · have h2 := h' μ hI
    clear fin h h'
    refine T_M_tape (d := 37) (k1 := ?_) (k2 := ?_) (k3 := ?_) (k4 := ?_) (k5 := ?_) (k6 := ?_) (k7 := ?_) (k8 := ?_) (k9 := ?_) (k10 := ?_) (k11 := ?_) (k12 := ?_) (k13 := ?_)
    all_goals (intros; first | exact h2 | (exfalso; omega))
  · have h2 := h' μ hI
    clear fin h h'
    refine T_M_tape (d := 37) (k1 := ?_) (k2 := ?_) (k3 := ?_) (k4 := ?_) (k5 := ?_) (k6 := ?_) (k7 := ?_) (k8 := ?_) (k9 := ?_) (k10 := ?_) (k11 := ?_) (k12 := ?_) (k13 := ?_)
    all_goals (intros; first | exact h2 | (exfalso; omega))
  · have hf := fin s n z1 (by omega) (by omega) (fun z => absurd z z2) s n m1 Q' t1 h1 h2 h3 h'
    clear fin h h' h3
    refine T_M_tape (d := 37) (k1 := ?_) (k2 := ?_) (k3 := ?_) (k4 := ?_) (k5 := ?_) (k6 := ?_) (k7 := ?_) (k8 := ?_) (k9 := ?_) (k10 := ?_) (k11 := ?_) (k12 := ?_) (k13 := ?_)
    all_goals (intros; first | exact hf | (exfalso; omega))
  · have h2 := h' μ hI
    clear fin h h'
    refine T_M_tape (d := 37) (k1 := ?_) (k2 := ?_) (k3 := ?_) (k4 := ?_) (k5 := ?_) (k6 := ?_) (k7 := ?_) (k8 := ?_) (k9 := ?_) (k10 := ?_) (k11 := ?_) (k12 := ?_) (k13 := ?_)
    all_goals (intros; first | exact h2 | (exfalso; omega))
  · have h2 := h' μ hI
    clear fin h h'
    refine T_M_tape (d := 37) (k1 := ?_) (k2 := ?_) (k3 := ?_) (k4 := ?_) (k5 := ?_) (k6 := ?_) (k7 := ?_) (k8 := ?_) (k9 := ?_) (k10 := ?_) (k11 := ?_) (k12 := ?_) (k13 := ?_)
    all_goals (intros; first | exact h2 | (exfalso; omega))
  · have hf := fin s 0 z1 (by omega) (by omega) (fun z => rfl) s n m1 Q' t1 (by rw [h1, z2]) h2 h3 h'
    clear fin h h' h3
    refine T_M_tape (d := 37) (k1 := ?_) (k2 := ?_) (k3 := ?_) (k4 := ?_) (k5 := ?_) (k6 := ?_) (k7 := ?_) (k8 := ?_) (k9 := ?_) (k10 := ?_) (k11 := ?_) (k12 := ?_) (k13 := ?_)
    all_goals (intros; first | exact hf | (exfalso; omega))
  · have h2 := h' μ hI
    clear fin h h'
    refine T_M_tape (d := 37) (k1 := ?_) (k2 := ?_) (k3 := ?_) (k4 := ?_) (k5 := ?_) (k6 := ?_) (k7 := ?_) (k8 := ?_) (k9 := ?_) (k10 := ?_) (k11 := ?_) (k12 := ?_) (k13 := ?_)
    all_goals (intros; first | exact h2 | (exfalso; omega))
theorem c_Tp_put (hs : 0 ≤ μ 29 a 0 ∧ μ 29 a 0 ≤ 4) (hx : 0 ≤ x ∧ x < 60) (h : Q none (up μ 30 a x (narF (μ 29 a 0) z))) : Cal g (d + 1) m_Tp_put [aR 29 a, aI x, aL z] μ Q := by
  unfold narF at h
  refine T_Tp_put (k1 := fun y => ?_) (k2 := fun y => ?_) (k3 := fun y => ?_) (k4 := fun y => ?_) (k5 := fun y1 y2 y3 y4 y5 => ?_) (k6 := fun y1 y2 y3 y4 y5 => ?_)
  · rw [if_pos y] at h; exact h
  · rw [if_neg (by omega), if_pos y] at h; exact h
  · rw [if_neg (by omega), if_neg (by omega), if_pos y] at h; exact h
  · rw [if_neg (by omega), if_neg (by omega), if_neg (by omega), if_neg (by omega)] at h; exact h
  · rw [if_neg (by omega), if_neg (by omega), if_neg (by omega), if_pos (by omega), bI_f (fun e => e y5)] at h; exact h
  · rw [if_neg (by omega), if_neg (by omega), if_neg (by omega), if_pos (by omega), bI_t y5] at h; exact h
theorem j_item (hI : Inv μ) : Pair g 40 m_P_item m_M_item [aI t, aI i, aL z] μ := by
  intro Q h
  refine T_P_item (d := 38) (k1 := fun z1 z2 z3 => ?_) (k2 := fun z1 z2 z3 => h _ _ (fun Q' h' => ?_)) (k3 := fun z1 z2 => h _ _ (fun Q' h' => ?_)) (k4 := fun z1 => h _ _ (fun Q' h' => ?_)) (b3 := fun z _ _ => z)
  · obtain ⟨⟨e1, e2⟩, e3, e4, e5, e6⟩ := hI.ta t z1.1 z1.2
    refine c_Tp_put (d := 38) (by omega) (by omega) (B_P_item_52 (k1 := h _ _ (fun Q' h' => ?_)))
    have f1 : up μ 30 t i (narF (μ 29 t 0) z) 72 0 t = μ 29 t 0 := (up_other (by decide)).trans e1
    have f2 : up μ 30 t i (narF (μ 29 t 0) z) 73 0 t = μ 29 t 1 := (up_other (by decide)).trans e2
    refine T_M_item (d := 37) (b1 := by intros; omega) (b2 := by intros; omega) (b3 := by rw [f2]; intros; omega) (b4 := by intros; omega) (b5 := by rw [f2]; intros; omega) (b6 := by intros; omega) (b7 := by rw [f2]; intros; omega) (k1 := fun _ _ _ => ?_) (k2 := fun _ _ y => absurd (by rw [f2]; omega) y) (k3 := fun _ y => absurd y (by rw [f1]; omega)) (k4 := fun y => absurd (by omega) y)
    rw [f1]
    refine h' _ (hI.tape (t0 := t) z1 ((Tch.rf.up (by omega)).up (by omega)) ?_)
    unfold TA1
    rw [up_other (by decide), up_other (by decide), up_other (by decide), up_other (by decide), up_other (by decide), up_other (by decide), up_other (by decide), up_other (by decide)]
    refine ⟨⟨e1, e2⟩, e3, e4, e5, fun q q0 q1 => ?_⟩
    rw [up_other (show (30 : Nat) ≠ 74 by decide)]
    by_cases e : q = i
    · rw [e, up_same, up_same]
    · rw [up_ne (by omega), up_other (by decide), up_ne e]; exact e6 q q0 q1
  · obtain ⟨⟨e1, e2⟩, e3, e4, e5, e6⟩ := hI.ta t z1.1 z1.2
    clear e5
    exact T_M_item (d := 37) (k1 := fun _ _ y => absurd y (by omega)) (k2 := fun _ _ _ => h' _ hI) (k3 := fun _ y => absurd y (by omega)) (k4 := fun y => absurd (by omega) y)
  · obtain ⟨⟨e1, e2⟩, e3, e4, e5, e6⟩ := hI.ta t z1.1 z1.2
    clear e5
    exact T_M_item (d := 37) (k1 := fun _ y _ => absurd y (by omega)) (k2 := fun _ y _ => absurd y (by omega)) (k3 := fun _ y => h' _ hI) (k4 := fun y => absurd (by omega) y)
  · exact T_M_item (d := 37) (b3 := fun y _ => absurd y (by omega)) (b5 := fun y _ _ => absurd y (by omega)) (b7 := fun y _ _ => absurd y (by omega)) (k1 := fun y _ _ => absurd y (by omega)) (k2 := fun y _ _ => absurd y (by omega)) (k3 := fun y _ => absurd y (by omega)) (k4 := fun y => h' _ hI)
theorem j_read (hI : Inv μ) : PairL g 40 m_P_read m_M_read [aI t, aI i] μ := by
  refine PairL.s (if (0 ≤ t ∧ t < 6) ∧ (0 ≤ i ∧ i < μ 29 t 1) then μ 30 t i else -9223372036854775808) hI (fun Q h => ?_) (fun Q h => ?_)
  · refine T_P_read (d := 38) (k1 := fun z1 => ?_) (b3 := fun z1 _ => ?_) (k2 := fun z1 z2 => ?_) (k3 := fun z1 z2 => ?_)
    · rw [if_neg (fun y => z1 y.1)] at h; exact h
    · obtain ⟨⟨e1, e2⟩, e3, e4, e5, e6⟩ := hI.ta t z1.1 z1.2
      omega
    · rw [if_pos ⟨z1, z2⟩] at h; exact h
    · rw [if_neg (fun y => z2 y.2)] at h; exact h
  · by_cases ht : 0 ≤ t ∧ t < 6
    · obtain ⟨⟨e1, e2⟩, e3, e4, e5, e6⟩ := hI.ta t ht.1 ht.2
      have e5' : μ 29 t 0 < 0 → μ 29 t 1 = 0 := fun z => e5 (by omega)
      clear e5
      refine T_M_read (d := 37) (b3 := by clear e5' h; intros; omega) (b4 := by clear e5' h; intros; omega) (b5 := by clear e5' h; intros; omega) (b6 := by clear e5' h; intros; omega) (k1 := fun z1 => absurd (by clear e5' h; omega) z1) (k2 := fun z1 z2 => ?_) (k3 := fun z1 z2 z3 => ?_) (k4 := fun z1 z2 z3 => ?_)
      · have := e5' (by omega)
        rw [if_neg (by clear e5' h; omega)] at h; exact h
      · rw [if_pos (by clear e5' h; omega)] at h
        rw [e6 i (by clear e5' h; omega) (by clear e5' h; omega)]; exact h
      · rw [if_neg (by clear e5' h; omega)] at h; exact h
    · rw [if_neg (fun y => ht y.1)] at h
      exact T_M_read (d := 37) (b3 := fun y _ => absurd y (by omega)) (b4 := fun y _ _ => absurd y (by omega)) (b5 := fun y _ _ => absurd y (by omega)) (b6 := fun y _ _ => absurd y (by omega)) (k1 := fun _ => h) (k2 := fun y _ => absurd y (by omega)) (k3 := fun y _ _ => absurd y (by omega)) (k4 := fun y _ _ => absurd y (by omega))
theorem j_judge (hI : Inv μ) (hi : -2147483648 ≤ i ∧ i < 2147483648) : Pair g 40 m_P_judge m_M_judge [aI t, aI i] μ := by
  have hn := hI_n hI
  have hn1 := hn.1
  refine Pair.s (if 0 ≤ t ∧ t < 6 then (if μ 29 t 0 = -1 ∨ μ 29 t 0 = 1 then fstJ (jF μ t i) (μ 2 0 0) else -12) else -1) hI (fun Q h => ?_) (fun Q h => ?_)
  · by_cases ht : 0 ≤ t ∧ t < 6
    · obtain ⟨⟨e1, e2⟩, e3, e4, e5, e6⟩ := hI.ta t ht.1 ht.2
      rw [if_pos ht] at h
      have L : Q (some (aI (fstJ (jF μ t i) (μ 2 0 0)))) μ → Rn g 39 m_P_judge 38 [some (aR 0 0), some (aI t), some (aI i), some (aR 29 t), some (aI 0)] [] μ Q := fun h => by
        clear e5 e6
        refine loopR (n := μ 2 0 0) (fun p (m : aM) => Rn g 39 m_P_judge 38 [some (aR 0 0), some (aI t), some (aI i), some (aR 29 t), some (aI p)] [] m Q) (fun p m => m = μ ∧ ∀ k, 0 ≤ k → k < p → jF μ t i k = -5) ?_ ?_ 0 μ (by omega) (by omega) ⟨rfl, fun k k0 k1 => absurd k1 (by omega)⟩
        · rintro p m p0 p1 ⟨rfl, hq⟩ ih
          have hk := fst_key (C := fun x => Q (some (aI x)) m) h p p0 (by omega) hq
          refine B_P_judge_38 (d := 38) (b2 := by clear hk hq ih h; intros; omega) (b3 := by clear hk hq ih h; intros; omega) (b4 := by clear hk hq ih h; intros; omega) (b5 := by clear hk hq ih h; intros; omega) (b6 := by clear hk hq ih h; intros; omega) (b7 := by clear hk hq ih h; intros; omega) (b1 := by clear hk hq ih h; intros; omega) (k1 := fun y => absurd y (by clear hk hq ih h; omega)) (k2 := fun _ y => ?_) (k3 := fun _ y1 y2 y3 => ih _ ⟨rfl, fun k k0 k1 => ?_⟩) (k4 := fun _ y1 y2 y3 => ?_) (k5 := fun _ y1 y2 => ?_)
          · have e : jF m t i p = 100 + p := by unfold jF; rw [if_pos (Or.inl y)]
            have := hk.2 p1 (by rw [e]; clear hk hq ih h; omega)
            rw [e] at this; exact this
          · by_cases e : k = p
            · rw [e]; unfold jF; rw [if_neg (by clear hk hq ih h; omega), if_pos y3]
            · exact hq k k0 (by clear hk hq ih h; omega)
          · have e : jF m t i p = p := by unfold jF; rw [if_neg (by clear hk hq ih h; omega), if_neg y3]
            have := hk.2 p1 (by rw [e]; clear hk hq ih h; omega)
            rw [e] at this; exact this
          · have e : jF m t i p = 100 + p := by unfold jF; rw [if_pos (Or.inr y2)]
            have := hk.2 p1 (by rw [e]; clear hk hq ih h; omega)
            rw [e] at this; exact this
        · rintro m ⟨rfl, hq⟩
          have hk := fst_key (C := fun x => Q (some (aI x)) m) h (m 2 0 0) (by omega) (by omega) hq
          exact B_P_judge_38 (d := 38) (b2 := fun y => absurd y (by omega)) (b3 := fun y => absurd y (by omega)) (b4 := fun y => absurd y (by omega)) (b5 := fun y => absurd y (by omega)) (b6 := fun y => absurd y (by omega)) (b7 := fun y => absurd y (by omega)) (b1 := fun y => absurd y (by omega)) (k1 := fun _ => hk.1 rfl) (k2 := fun y => absurd y (by omega)) (k3 := fun y => absurd y (by omega)) (k4 := fun y => absurd y (by omega)) (k5 := fun y => absurd y (by omega))
      refine T_P_judge (d := 38) (k1 := fun z1 z2 => L ?_) (k2 := fun z1 z2 z3 => L ?_) (k3 := fun z1 z2 z3 => ?_) (k4 := fun z1 => absurd ht z1)
      · rw [if_pos (Or.inl z2)] at h; exact h
      · rw [if_pos (Or.inr z3)] at h; exact h
      · rw [if_neg (by clear h L e5; omega)] at h; exact h
    · rw [if_neg ht] at h
      exact T_P_judge (d := 38) (k1 := fun y => absurd y ht) (k2 := fun y => absurd y ht) (k3 := fun y => absurd y ht) (k4 := fun _ => h)
  · by_cases ht : 0 ≤ t ∧ t < 6
    · obtain ⟨⟨e1, e2⟩, e3, e4, e5, e6⟩ := hI.ta t ht.1 ht.2
      rw [if_pos ht] at h
      have L : Q (some (aI (fstJ (jF μ t i) (μ 2 0 0)))) μ → Rn g 39 m_M_judge 34 [some (aR 31 0), some (aI t), some (aI i), some (aI 0)] [] μ Q := fun h => by
        have e5' : μ 29 t 0 < 0 → μ 29 t 1 = 0 := fun z => e5 (by omega)
        clear e5
        refine loopR (n := μ 2 0 0) (fun p (m : aM) => Rn g 39 m_M_judge 34 [some (aR 31 0), some (aI t), some (aI i), some (aI p)] [] m Q) (fun p m => m = μ ∧ ∀ k, 0 ≤ k → k < p → jF μ t i k = -5) ?_ ?_ 0 μ (by omega) (by omega) ⟨rfl, fun k k0 k1 => absurd k1 (by omega)⟩
        · rintro p m p0 p1 ⟨rfl, hq⟩ ih
          have hk := fst_key (C := fun x => Q (some (aI x)) m) h p p0 (by omega) hq
          have ho := (hI_o hI (i := p) p0 (by omega)).1
          have c1 : jF m t i p = 100 + p → Q (some (aI (100 + p))) m := fun e => by
            have := hk.2 p1 (by rw [e]; clear hk hq ih h e5'; omega)
            rw [e] at this; exact this
          have e7 : 0 ≤ i → i ≤ m 73 0 t - p - 1 → m 74 0 (60 * t + i + p) = m 30 t (i + p) := fun y1 y2 => by
            rw [show 60 * t + i + p = 60 * t + (i + p) by omega]
            exact e6 (i + p) (by omega) (by clear e5' c1 ih hq hk h; omega)
          refine B_M_judge_34 (d := 37) (b1 := by clear hk hq ih h e5' c1 e7; intros; omega) (b2 := by clear hk hq ih h e5' c1 e7; intros; omega) (b3 := by clear hk hq ih h e5' c1 e7; intros; omega) (b4 := by clear hk hq ih h e5' c1 e7; intros; omega) (b5 := by clear hk hq ih h e5' c1 e7; intros; omega) (b6 := by clear hk hq ih h e5' c1 e7; intros; omega) (b7 := by clear hk hq ih h e5' c1 e7; intros; omega) (b8 := by clear hk hq ih h e5' c1 e7; intros; omega) (b9 := by clear hk hq ih h e5' c1 e7; intros; omega) (b10 := by clear hk hq ih h e5' c1 e7; intros; omega) (b11 := by clear hk hq ih h e5' c1 e7; intros; omega) (b12 := by clear hk hq ih h e5' c1 e7; intros; omega) (b13 := by clear hk hq ih h e5' c1 e7; intros; omega) (k1 := fun y => absurd y (by clear hk hq ih h e5' c1 e7; omega)) (k2 := fun _ y => c1 ?_) (k3 := fun _ y1 y2 => c1 ?_) (k4 := fun _ y1 y2 y3 y4 => ih _ ⟨rfl, fun k k0 k1 => ?_⟩) (k5 := fun _ y1 y2 y3 y4 => ?_) (k6 := fun _ y1 y2 y3 => c1 ?_)
          · have := e5' (by omega)
            unfold jF; rw [if_pos (by clear hk hq ih h e5' c1 e7; omega)]
          · unfold jF; rw [if_pos (Or.inl y2)]
          · by_cases e : k = p
            · rw [e]; unfold jF
              rw [e7 y2 y3, ho] at y4
              rw [if_neg (by clear hk hq ih h e5' c1 e7; omega), if_pos y4]
            · exact hq k k0 (by clear hk hq ih h e5' c1 e7; omega)
          · rw [e7 y2 y3, ho] at y4
            have e : jF m t i p = p := by unfold jF; rw [if_neg (by clear hk hq ih h e5' c1 e7; omega), if_neg y4]
            have := hk.2 p1 (by rw [e]; clear hk hq ih h e5' c1 e7; omega)
            rw [e] at this; exact this
          · unfold jF; rw [if_pos (by clear hk hq ih h e5' c1 e7; omega)]
        · rintro m ⟨rfl, hq⟩
          have hk := fst_key (C := fun x => Q (some (aI x)) m) h (m 2 0 0) (by omega) (by omega) hq
          exact B_M_judge_34 (d := 37) (b1 := fun y => absurd y (by omega)) (b2 := fun y => absurd y (by omega)) (b3 := fun y => absurd y (by omega)) (b4 := fun y => absurd y (by omega)) (b5 := fun y => absurd y (by omega)) (b6 := fun y => absurd y (by omega)) (b7 := fun y => absurd y (by omega)) (b8 := fun y => absurd y (by omega)) (b9 := fun y => absurd y (by omega)) (b10 := fun y => absurd y (by omega)) (b11 := fun y => absurd y (by omega)) (b12 := fun y => absurd y (by omega)) (b13 := fun y => absurd y (by omega)) (k1 := fun _ => hk.1 rfl) (k2 := fun y => absurd y (by omega)) (k3 := fun y => absurd y (by omega)) (k4 := fun y => absurd y (by omega)) (k5 := fun y => absurd y (by omega)) (k6 := fun y => absurd y (by omega))
      have en : μ 72 0 t = μ 29 t 0 := e1
      clear e5 e6
      refine T_M_judge (d := 37) (b1 := by clear L h; intros; omega) (b2 := by clear L h; intros; omega) (k1 := fun z1 z2 => L ?_) (k2 := fun z1 z2 z3 => L ?_) (k3 := fun z1 z2 z3 => ?_) (k4 := fun z1 => absurd (by clear L h; omega) z1)
      · rw [if_pos (by clear L h; omega)] at h; exact h
      · rw [if_pos (by clear L h; omega)] at h; exact h
      · rw [if_neg (by clear L h; omega)] at h; exact h
    · rw [if_neg ht] at h
      exact T_M_judge (d := 37) (b1 := fun y => absurd y (by omega)) (b2 := fun y _ => absurd y (by omega)) (k1 := fun y => absurd y (by omega)) (k2 := fun y => absurd y (by omega)) (k3 := fun y => absurd y (by omega)) (k4 := fun _ => h)
end
