/-! Small methods: what each answers. -/
def clp (m x : Int) : Int := if x < -m then -m else if m < x then m else x
def factF (p k v u o d f : Int) : Int := if f = 0 then p else if f = 1 then k else if f = 2 then v else if f = 3 then u / 10 else if f = 4 then clp 99 (i_abs o) else d % 10
def placeF (c : Int) : Int := if c = 112 then 0 else if c = 107 then 1 else if c = 118 then 2 else if c = 117 then 3 else if c = 111 then 4 else if c = 100 then 5 else -1
def bodyF (k a : Int) : Int := if k = 0 then 10 + a else if k = 1 then (if a = 1 then 20 else 0) else if k = 2 then (if a = 0 then 30 else 0) else if k = 3 then (if a = 2 then 40 else 0) else if k = 4 then (if a = 0 then 50 else if a = 1 then 51 else 0) else if k = 5 then (if a = 2 then 60 else 0) else if a = 1 then 70 else if a = 0 then 71 else 0
def narF (s z : Int) : Int := if s = 0 then w8 (w32 z) else if s = 1 then w16 (w32 z) else if s = 2 then w32 z else if s = 4 then bI (z ≠ 0) else z
theorem i_div_nn {x y : Int} (hx : 0 ≤ x) (hx2 : x < 2147483648) (hy : 0 < y) : i_div x y = x / y := by
  unfold i_div
  rw [Int.tdiv_eq_ediv_of_nonneg hx]
  have h1 := Int.ediv_nonneg hx (Int.le_of_lt hy)
  have h2 := Int.ediv_le_self y hx
  exact w32_id ⟨by omega, by omega⟩
theorem i_rem_nn {x y : Int} (hx : 0 ≤ x) (hx2 : x < 2147483648) (hy : 0 < y) : i_rem x y = x % y := by
  have h0 : i_div x y = x / y := i_div_nn hx hx2 hy
  unfold i_div at h0
  unfold i_rem
  rw [h0]
  have e := Int.ediv_mul_add_emod x y
  have h3 := Int.emod_nonneg x (Int.ne_of_gt hy)
  have h4 : 0 ≤ x / y * y := Int.mul_nonneg (Int.ediv_nonneg hx (Int.le_of_lt hy)) (Int.le_of_lt hy)
  rw [w32_id (z := x / y * y) ⟨by omega, by omega⟩, w32_id ⟨by omega, by omega⟩]
  omega
theorem b_shr_0 {x : Int} (h : r32 x) : b_shr x 0 = x := by
  unfold b_shr
  rw [show Int32.ofInt x >>> (Int32.ofInt 0 &&& 31) = Int32.ofInt x from sb_shr0 _, n_tr h]
theorem flen_str {g : aG} {a : Int} (h : 0 ≤ a ∧ a < 6) : r32 (flen g 102 a) := by
  obtain ⟨j, rfl⟩ : ∃ j : Nat, a = (j : Int) := ⟨a.toNat, by omega⟩
  show r32 ((strL.getD j []).length : Int)
  have : ∀ j, j < 6 → (strL.getD j []).length < 10 := by decide
  have := this j (by omega)
  unfold r32; omega
theorem chr_rng (g : aG) (a i : Int) : 0 ≤ fget g 102 a i ∧ fget g 102 a i < 128 := by
  show 0 ≤ gtI (strL.getD a.toNat []) i ∧ gtI (strL.getD a.toNat []) i < 128
  unfold gtI
  rw [List.getD_eq_getElem?_getD]
  cases e : (strL.getD a.toNat [])[i.toNat]? with
  | none => decide
  | some x =>
    have h1 : strL.all (fun l => l.all (fun x => decide (0 ≤ x) && decide (x < 128))) = true := by decide
    have hx := List.mem_of_getElem? e
    rw [List.getD_eq_getElem?_getD] at hx
    cases e2 : strL[a.toNat]? with
    | none => rw [e2] at hx; cases hx
    | some l =>
      rw [e2] at hx
      have h2 := List.all_eq_true.mp (List.all_eq_true.mp h1 l (List.mem_of_getElem? e2)) x hx
      simp only [Bool.and_eq_true, decide_eq_true_eq] at h2
      exact h2
theorem chr_id {g : aG} {a i : Int} : b_and (fget g 102 a i) 255 % 65536 = fget g 102 a i := by
  obtain ⟨h1, h2⟩ := chr_rng g a i
  generalize fget g 102 a i = v at h1 h2
  obtain ⟨n, rfl⟩ : ∃ n : Nat, v = (n : Int) := ⟨v.toNat, by omega⟩
  have : ∀ n : Nat, n < 128 → b_and (n : Int) 255 % 65536 = (n : Int) := by decide +kernel
  exact this n (by omega)
theorem i_abs_e {x : Int} (h : -2147483648 < x) (h2 : x < 2147483648) : i_abs x = if 0 ≤ x then x else -x := by
  unfold i_abs; split
  · rfl
  · rw [w32_id ⟨by omega, by omega⟩]; omega
theorem E_P_isPerson {g : aG} {d : Nat} {x1 : Int} {μ : aM} {Q : aQ} (k1 : (x1 < 0) → Q (some (aI 0)) μ) (k2 : ((0 : Int) ≤ x1) → (μ 2 0 0 ≤ x1) → Q (some (aI 0)) μ) (k3 : ((0 : Int) ≤ x1) → (x1 < μ 2 0 0) → Q (some (aI 1)) μ) : Rn g d m_P_isPerson 0 [some (aR 0 0), some (aI x1)] [] μ Q :=
  (R_blk 2 (And.intro (fun c1 => (R_blk 2 (And.intro (Or.inl rfl) (k1 c1)))) (fun c1 => (R_blk 6 (And.intro (fun c2 => (R_blk 2 (And.intro (Or.inl rfl) (k2 c1 c2)))) (fun c2 => (R_blk 3 (And.intro (Or.inr rfl) (k3 c1 c2)))))))))
theorem T_P_isPerson {g : aG} {d : Nat} {x1 : Int} {μ : aM} {Q : aQ} (k1 : (x1 < 0) → Q (some (aI 0)) μ) (k2 : ((0 : Int) ≤ x1) → (μ 2 0 0 ≤ x1) → Q (some (aI 0)) μ) (k3 : ((0 : Int) ≤ x1) → (x1 < μ 2 0 0) → Q (some (aI 1)) μ) : Cal g (d + 1) m_P_isPerson [aR 0 0, aI x1] μ Q :=
  C_ent rfl (Nat.le_of_ble_eq_true rfl) (E_P_isPerson (k1 := k1) (k2 := k2) (k3 := k3))
theorem c_P_isPerson {g : aG} {d : Nat} {x1 : Int} {μ : aM} {Q : aQ}  (h : Q (some (aI (bI (0 ≤ x1 ∧ x1 < (μ 2 0 0))))) μ) : Cal g (d + 1) m_P_isPerson [aR 0 0, aI x1] μ Q := by
  refine C_ent rfl (Nat.le_of_ble_eq_true rfl) ?_
  refine E_P_isPerson (k1 := ?_) (k2 := ?_) (k3 := ?_)
  all_goals intros
  all_goals first | exact absurd ‹_› (by omega) | omega | exact qe h (by unfold bI; split <;> omega)
theorem E_P_isOff {g : aG} {d : Nat} {x0 : Int} {μ : aM} {Q : aQ} (k1 : (x0 < (-999)) → Q (some (aI 0)) μ) (k2 : ((-999 : Int) ≤ x0) → ((999 : Int) < x0) → Q (some (aI 0)) μ) (k3 : ((-999 : Int) ≤ x0) → (x0 ≤ 999) → Q (some (aI 1)) μ) : Rn g d m_P_isOff 0 [some (aI x0)] [] μ Q :=
  (R_blk 3 (And.intro (fun c1 => (R_blk 2 (And.intro (Or.inl rfl) (k1 c1)))) (fun c1 => (R_blk 3 (And.intro (fun c2 => (R_blk 2 (And.intro (Or.inl rfl) (k2 c1 c2)))) (fun c2 => (R_blk 3 (And.intro (Or.inr rfl) (k3 c1 c2)))))))))
theorem T_P_isOff {g : aG} {d : Nat} {x0 : Int} {μ : aM} {Q : aQ} (k1 : (x0 < (-999)) → Q (some (aI 0)) μ) (k2 : ((-999 : Int) ≤ x0) → ((999 : Int) < x0) → Q (some (aI 0)) μ) (k3 : ((-999 : Int) ≤ x0) → (x0 ≤ 999) → Q (some (aI 1)) μ) : Cal g (d + 1) m_P_isOff [aI x0] μ Q :=
  C_ent rfl (Nat.le_of_ble_eq_true rfl) (E_P_isOff (k1 := k1) (k2 := k2) (k3 := k3))
theorem c_P_isOff {g : aG} {d : Nat} {x0 : Int} {μ : aM} {Q : aQ}  (h : Q (some (aI (bI (-999 ≤ x0 ∧ x0 ≤ 999)))) μ) : Cal g (d + 1) m_P_isOff [aI x0] μ Q := by
  refine C_ent rfl (Nat.le_of_ble_eq_true rfl) ?_
  refine E_P_isOff (k1 := ?_) (k2 := ?_) (k3 := ?_)
  all_goals intros
  all_goals first | exact absurd ‹_› (by omega) | omega | exact qe h (by unfold bI; split <;> omega)
theorem E_P_isDue {g : aG} {d : Nat} {x0 : Int} {μ : aM} {Q : aQ} (k1 : (x0 < 0) → Q (some (aI 0)) μ) (k2 : ((0 : Int) ≤ x0) → ((99 : Int) < x0) → Q (some (aI 0)) μ) (k3 : ((0 : Int) ≤ x0) → (x0 ≤ 99) → Q (some (aI 1)) μ) : Rn g d m_P_isDue 0 [some (aI x0)] [] μ Q :=
  (R_blk 2 (And.intro (fun c1 => (R_blk 2 (And.intro (Or.inl rfl) (k1 c1)))) (fun c1 => (R_blk 3 (And.intro (fun c2 => (R_blk 2 (And.intro (Or.inl rfl) (k2 c1 c2)))) (fun c2 => (R_blk 3 (And.intro (Or.inr rfl) (k3 c1 c2)))))))))
theorem T_P_isDue {g : aG} {d : Nat} {x0 : Int} {μ : aM} {Q : aQ} (k1 : (x0 < 0) → Q (some (aI 0)) μ) (k2 : ((0 : Int) ≤ x0) → ((99 : Int) < x0) → Q (some (aI 0)) μ) (k3 : ((0 : Int) ≤ x0) → (x0 ≤ 99) → Q (some (aI 1)) μ) : Cal g (d + 1) m_P_isDue [aI x0] μ Q :=
  C_ent rfl (Nat.le_of_ble_eq_true rfl) (E_P_isDue (k1 := k1) (k2 := k2) (k3 := k3))
theorem c_P_isDue {g : aG} {d : Nat} {x0 : Int} {μ : aM} {Q : aQ}  (h : Q (some (aI (bI (0 ≤ x0 ∧ x0 ≤ 99)))) μ) : Cal g (d + 1) m_P_isDue [aI x0] μ Q := by
  refine C_ent rfl (Nat.le_of_ble_eq_true rfl) ?_
  refine E_P_isDue (k1 := ?_) (k2 := ?_) (k3 := ?_)
  all_goals intros
  all_goals first | exact absurd ‹_› (by omega) | omega | exact qe h (by unfold bI; split <;> omega)
theorem E_P_isDays {g : aG} {d : Nat} {x0 x1 : Int} {μ : aM} {Q : aQ} (k1 : (x0 < 0) → Q (some (aI 0)) μ) (k2 : ((0 : Int) ≤ x0) → (x1 < x0) → Q (some (aI 0)) μ) (k3 : ((0 : Int) ≤ x0) → (x0 ≤ x1) → Q (some (aI 1)) μ) : Rn g d m_P_isDays 0 [some (aI x0), some (aI x1)] [] μ Q :=
  (R_blk 2 (And.intro (fun c1 => (R_blk 2 (And.intro (Or.inl rfl) (k1 c1)))) (fun c1 => (R_blk 3 (And.intro (fun c2 => (R_blk 2 (And.intro (Or.inl rfl) (k2 c1 c2)))) (fun c2 => (R_blk 3 (And.intro (Or.inr rfl) (k3 c1 c2)))))))))
theorem T_P_isDays {g : aG} {d : Nat} {x0 x1 : Int} {μ : aM} {Q : aQ} (k1 : (x0 < 0) → Q (some (aI 0)) μ) (k2 : ((0 : Int) ≤ x0) → (x1 < x0) → Q (some (aI 0)) μ) (k3 : ((0 : Int) ≤ x0) → (x0 ≤ x1) → Q (some (aI 1)) μ) : Cal g (d + 1) m_P_isDays [aI x0, aI x1] μ Q :=
  C_ent rfl (Nat.le_of_ble_eq_true rfl) (E_P_isDays (k1 := k1) (k2 := k2) (k3 := k3))
theorem c_P_isDays {g : aG} {d : Nat} {x0 x1 : Int} {μ : aM} {Q : aQ}  (h : Q (some (aI (bI (0 ≤ x0 ∧ x0 ≤ x1)))) μ) : Cal g (d + 1) m_P_isDays [aI x0, aI x1] μ Q := by
  refine C_ent rfl (Nat.le_of_ble_eq_true rfl) ?_
  refine E_P_isDays (k1 := ?_) (k2 := ?_) (k3 := ?_)
  all_goals intros
  all_goals first | exact absurd ‹_› (by omega) | omega | exact qe h (by unfold bI; split <;> omega)
theorem E_P_isTape {g : aG} {d : Nat} {x0 : Int} {μ : aM} {Q : aQ} (k1 : (x0 < 0) → Q (some (aI 0)) μ) (k2 : ((0 : Int) ≤ x0) → ((6 : Int) ≤ x0) → Q (some (aI 0)) μ) (k3 : ((0 : Int) ≤ x0) → (x0 < 6) → Q (some (aI 1)) μ) : Rn g d m_P_isTape 0 [some (aI x0)] [] μ Q :=
  (R_blk 2 (And.intro (fun c1 => (R_blk 2 (And.intro (Or.inl rfl) (k1 c1)))) (fun c1 => (R_blk 3 (And.intro (fun c2 => (R_blk 2 (And.intro (Or.inl rfl) (k2 c1 c2)))) (fun c2 => (R_blk 3 (And.intro (Or.inr rfl) (k3 c1 c2)))))))))
theorem T_P_isTape {g : aG} {d : Nat} {x0 : Int} {μ : aM} {Q : aQ} (k1 : (x0 < 0) → Q (some (aI 0)) μ) (k2 : ((0 : Int) ≤ x0) → ((6 : Int) ≤ x0) → Q (some (aI 0)) μ) (k3 : ((0 : Int) ≤ x0) → (x0 < 6) → Q (some (aI 1)) μ) : Cal g (d + 1) m_P_isTape [aI x0] μ Q :=
  C_ent rfl (Nat.le_of_ble_eq_true rfl) (E_P_isTape (k1 := k1) (k2 := k2) (k3 := k3))
theorem c_P_isTape {g : aG} {d : Nat} {x0 : Int} {μ : aM} {Q : aQ}  (h : Q (some (aI (bI (0 ≤ x0 ∧ x0 < 6)))) μ) : Cal g (d + 1) m_P_isTape [aI x0] μ Q := by
  refine C_ent rfl (Nat.le_of_ble_eq_true rfl) ?_
  refine E_P_isTape (k1 := ?_) (k2 := ?_) (k3 := ?_)
  all_goals intros
  all_goals first | exact absurd ‹_› (by omega) | omega | exact qe h (by unfold bI; split <;> omega)
theorem E_P_isFraction {g : aG} {d : Nat} {x1 x2 : Int} {μ : aM} {Q : aQ} (k1 : (¬ (0 ≤ x1 ∧ x1 ≤ 60)) → Q (some (aI 0)) μ) (k2 : (0 ≤ x1 ∧ x1 ≤ 60) → (x2 = 0) → (μ 2 0 0 ≤ 0) → Q (some (aI 0)) μ) (k3 : (0 ≤ x1 ∧ x1 ≤ 60) → (x2 = 0) → ((0 : Int) < μ 2 0 0) → Q (some (aI 1)) μ) (k4 : (0 ≤ x1 ∧ x1 ≤ 60) → (x2 ≠ 0) → (x2 ≠ 1) → Q (some (aI 0)) μ) (k5 : (0 ≤ x1 ∧ x1 ≤ 60) → (x2 ≠ 0) → (x2 = 1) → (μ 2 0 0 ≤ 0) → Q (some (aI 0)) μ) (k6 : (0 ≤ x1 ∧ x1 ≤ 60) → (x2 ≠ 0) → (x2 = 1) → ((0 : Int) < μ 2 0 0) → Q (some (aI 1)) μ) : Rn g (d + 1) m_P_isFraction 0 [some (aR 0 0), some (aI x1), some (aI x2)] [] μ Q :=
  (R_blk 3 (And.intro (Nat.le_of_ble_eq_true rfl) (c_P_isDays (R_blk 1 (And.intro (fun c1 => (R_blk 2 (And.intro (Or.inl rfl) (k1 (bI_eq.mp c1))))) (fun c1 => (R_blk 2 (And.intro (fun c2 => (R_blk 5 (And.intro (fun c3 => (R_blk 2 (And.intro (Or.inl rfl) (k2 (bI_ne.mp c1) c2 c3)))) (fun c3 => (R_blk 3 (And.intro (Or.inr rfl) (k3 (bI_ne.mp c1) c2 c3))))))) (fun c2 => (R_blk 3 (And.intro (fun c4 => (R_blk 2 (And.intro (Or.inl rfl) (k4 (bI_ne.mp c1) c2 c4)))) (fun c4 => (R_blk 5 (And.intro (fun c5 => (R_blk 2 (And.intro (Or.inl rfl) (k5 (bI_ne.mp c1) c2 c4 c5)))) (fun c5 => (R_blk 3 (And.intro (Or.inr rfl) (k6 (bI_ne.mp c1) c2 c4 c5))))))))))))))))))
theorem T_P_isFraction {g : aG} {d : Nat} {x1 x2 : Int} {μ : aM} {Q : aQ} (k1 : (¬ (0 ≤ x1 ∧ x1 ≤ 60)) → Q (some (aI 0)) μ) (k2 : (0 ≤ x1 ∧ x1 ≤ 60) → (x2 = 0) → (μ 2 0 0 ≤ 0) → Q (some (aI 0)) μ) (k3 : (0 ≤ x1 ∧ x1 ≤ 60) → (x2 = 0) → ((0 : Int) < μ 2 0 0) → Q (some (aI 1)) μ) (k4 : (0 ≤ x1 ∧ x1 ≤ 60) → (x2 ≠ 0) → (x2 ≠ 1) → Q (some (aI 0)) μ) (k5 : (0 ≤ x1 ∧ x1 ≤ 60) → (x2 ≠ 0) → (x2 = 1) → (μ 2 0 0 ≤ 0) → Q (some (aI 0)) μ) (k6 : (0 ≤ x1 ∧ x1 ≤ 60) → (x2 ≠ 0) → (x2 = 1) → ((0 : Int) < μ 2 0 0) → Q (some (aI 1)) μ) : Cal g (d + 2) m_P_isFraction [aR 0 0, aI x1, aI x2] μ Q :=
  C_ent rfl (Nat.le_of_ble_eq_true rfl) (E_P_isFraction (k1 := k1) (k2 := k2) (k3 := k3) (k4 := k4) (k5 := k5) (k6 := k6))
theorem c_P_isFraction {g : aG} {d : Nat} {x1 x2 : Int} {μ : aM} {Q : aQ}  (h : Q (some (aI (bI ((0 ≤ x1 ∧ x1 ≤ 60) ∧ (x2 = 0 ∨ x2 = 1) ∧ 0 < (μ 2 0 0))))) μ) : Cal g (d + 2) m_P_isFraction [aR 0 0, aI x1, aI x2] μ Q := by
  refine C_ent rfl (Nat.le_of_ble_eq_true rfl) ?_
  refine E_P_isFraction (k1 := ?_) (k2 := ?_) (k3 := ?_) (k4 := ?_) (k5 := ?_) (k6 := ?_)
  all_goals intros
  all_goals first | exact absurd ‹_› (by omega) | omega | exact qe h (by unfold bI; split <;> omega)
theorem E_Cr_between {g : aG} {d : Nat} {a0 x1 x2 : Int} {μ : aM} {Q : aQ} (b1 : 0 ≤ x1 ∧ x1 < 6 := by intros; omega) (b2 : 0 ≤ x2 ∧ x2 < 6 := by intros; omega) (b3 : -2147483648 ≤ (μ 6 a0 x1) - (μ 6 a0 x2) ∧ (μ 6 a0 x1) - (μ 6 a0 x2) < 2147483648 := by intros; omega) (k1 : Q (some (aI (i_abs ((μ 6 a0 x1) - (μ 6 a0 x2))))) μ) : Rn g d m_Cr_between 0 [some (aR 2 a0), some (aI x1), some (aI x2)] [] μ Q :=
  (R_blk 9 (And.intro b1 (And.intro b2 (R_w b3 (R_blk 2 (And.intro (Nat.le_of_ble_eq_true rfl) (And.intro trivial k1)))))))
theorem T_Cr_between {g : aG} {d : Nat} {a0 x1 x2 : Int} {μ : aM} {Q : aQ} (b1 : 0 ≤ x1 ∧ x1 < 6 := by intros; omega) (b2 : 0 ≤ x2 ∧ x2 < 6 := by intros; omega) (b3 : -2147483648 ≤ (μ 6 a0 x1) - (μ 6 a0 x2) ∧ (μ 6 a0 x1) - (μ 6 a0 x2) < 2147483648 := by intros; omega) (k1 : Q (some (aI (i_abs ((μ 6 a0 x1) - (μ 6 a0 x2))))) μ) : Cal g (d + 1) m_Cr_between [aR 2 a0, aI x1, aI x2] μ Q :=
  C_ent rfl (Nat.le_of_ble_eq_true rfl) (E_Cr_between (b1 := b1) (b2 := b2) (b3 := b3) (k1 := k1))
theorem c_Cr_between {g : aG} {d : Nat} {a0 x1 x2 : Int} {μ : aM} {Q : aQ} (p1 : 0 ≤ x1 ∧ x1 < 6) (p2 : 0 ≤ x2 ∧ x2 < 6) (p3 : -2147483648 ≤ (μ 6 a0 x1) - (μ 6 a0 x2) ∧ (μ 6 a0 x1) - (μ 6 a0 x2) < 2147483648) (h : Q (some (aI (i_abs ((μ 6 a0 x1) - (μ 6 a0 x2))))) μ) : Cal g (d + 1) m_Cr_between [aR 2 a0, aI x1, aI x2] μ Q := by
  refine C_ent rfl (Nat.le_of_ble_eq_true rfl) ?_
  refine E_Cr_between (k1 := ?_)
  all_goals intros
  all_goals first | exact absurd ‹_› (by omega) | omega | exact qe h (by rfl)
theorem E_Cr_quality {g : aG} {d : Nat} {a0 x1 x2 : Int} {μ : aM} {Q : aQ} (k1 : (x1 = 0) → Q (some (aI x2)) μ) (b1 : (x1 = 1) → 0 ≤ x2 ∧ x2 < 6 := by intros; omega) (k2 : (x1 = 1) → Q (some (aI (μ 3 a0 x2))) μ) (b2 : (x1 = 2) → 0 ≤ x2 ∧ x2 < 6 := by intros; omega) (k3 : (x1 = 2) → Q (some (aI (μ 4 a0 x2))) μ) (b3 : (x1 = 3) → 0 ≤ x2 ∧ x2 < 6 := by intros; omega) (k4 : (x1 = 3) → Q (some (aI (i_div (μ 5 a0 x2) 10))) μ) (b4 : (x1 = 4) → 0 ≤ x2 ∧ x2 < 6 := by intros; omega) (k5 : (x1 = 4) → ((99 : Int) < μ 6 a0 x2) → Q (some (aI 99)) μ) (b5 : (x1 = 4) → (μ 6 a0 x2 ≤ 99) → 0 ≤ x2 ∧ x2 < 6 := by intros; omega) (b6 : (x1 = 4) → (μ 6 a0 x2 ≤ 99) → ((-99 : Int) ≤ μ 6 a0 x2) → 0 ≤ x2 ∧ x2 < 6 := by intros; omega) (b7 : (x1 = 4) → (μ 6 a0 x2 ≤ 99) → ((-99 : Int) ≤ μ 6 a0 x2) → ((0 : Int) ≤ μ 6 a0 x2) → 0 ≤ x2 ∧ x2 < 6 := by intros; omega) (k6 : (x1 = 4) → (μ 6 a0 x2 ≤ 99) → ((-99 : Int) ≤ μ 6 a0 x2) → ((0 : Int) ≤ μ 6 a0 x2) → Q (some (aI (μ 6 a0 x2))) μ) (b8 : (x1 = 4) → (μ 6 a0 x2 ≤ 99) → ((-99 : Int) ≤ μ 6 a0 x2) → (μ 6 a0 x2 < 0) → 0 ≤ x2 ∧ x2 < 6 := by intros; omega) (b9 : (x1 = 4) → (μ 6 a0 x2 ≤ 99) → ((-99 : Int) ≤ μ 6 a0 x2) → (μ 6 a0 x2 < 0) → -2147483648 ≤ -(μ 6 a0 x2) ∧ -(μ 6 a0 x2) < 2147483648 := by intros; omega) (k7 : (x1 = 4) → (μ 6 a0 x2 ≤ 99) → ((-99 : Int) ≤ μ 6 a0 x2) → (μ 6 a0 x2 < 0) → Q (some (aI (-(μ 6 a0 x2)))) μ) (k8 : (x1 = 4) → (μ 6 a0 x2 ≤ 99) → (μ 6 a0 x2 < (-99)) → Q (some (aI 99)) μ) (k9 : (x1 ≠ 0) → (x1 ≠ 1) → (x1 ≠ 2) → (x1 ≠ 3) → (x1 ≠ 4) → Q (some (aI (i_rem (μ 2 a0 1) 10))) μ) : Rn g d m_Cr_quality 0 [some (aR 2 a0), some (aI x1), some (aI x2)] [] μ Q :=
  (R_blk 2 (And.intro (fun c1 => (R_blk 2 (And.intro trivial (k1 c1)))) (fun c1 => (And.intro (fun c2 => (R_blk 5 (And.intro (b1 c2) (And.intro trivial (k2 c2))))) (fun c2 => (And.intro (fun c3 => (R_blk 5 (And.intro (b2 c3) (And.intro trivial (k3 c3))))) (fun c3 => (And.intro (fun c4 => (R_blk 7 (And.intro (b3 c4) (And.intro (by decide) (And.intro trivial (k4 c4)))))) (fun c4 => (And.intro (fun c5 => (R_blk 6 (And.intro (b4 c5) (And.intro (fun c6 => (R_blk 3 (And.intro trivial (k5 c5 c6)))) (fun c6 => (R_blk 6 (And.intro (b5 c5 c6) (And.intro (fun c7 => (R_blk 5 (And.intro (b6 c5 c6 c7) (And.intro (fun c8 => (R_blk 5 (And.intro (b7 c5 c6 c7 c8) (And.intro trivial (k6 c5 c6 c7 c8))))) (fun c8 => (R_blk 5 (And.intro (b8 c5 c6 c7 c8) (R_w (b9 c5 c6 c7 c8) (R_blk 2 (And.intro trivial (k7 c5 c6 c7 c8))))))))))) (fun c7 => (R_blk 3 (And.intro trivial (k8 c5 c6 c7)))))))))))) (fun c5 => (R_blk 5 (And.intro (by decide) (And.intro trivial (k9 c1 c2 c3 c4 c5)))))))))))))))
theorem T_Cr_quality {g : aG} {d : Nat} {a0 x1 x2 : Int} {μ : aM} {Q : aQ} (k1 : (x1 = 0) → Q (some (aI x2)) μ) (b1 : (x1 = 1) → 0 ≤ x2 ∧ x2 < 6 := by intros; omega) (k2 : (x1 = 1) → Q (some (aI (μ 3 a0 x2))) μ) (b2 : (x1 = 2) → 0 ≤ x2 ∧ x2 < 6 := by intros; omega) (k3 : (x1 = 2) → Q (some (aI (μ 4 a0 x2))) μ) (b3 : (x1 = 3) → 0 ≤ x2 ∧ x2 < 6 := by intros; omega) (k4 : (x1 = 3) → Q (some (aI (i_div (μ 5 a0 x2) 10))) μ) (b4 : (x1 = 4) → 0 ≤ x2 ∧ x2 < 6 := by intros; omega) (k5 : (x1 = 4) → ((99 : Int) < μ 6 a0 x2) → Q (some (aI 99)) μ) (b5 : (x1 = 4) → (μ 6 a0 x2 ≤ 99) → 0 ≤ x2 ∧ x2 < 6 := by intros; omega) (b6 : (x1 = 4) → (μ 6 a0 x2 ≤ 99) → ((-99 : Int) ≤ μ 6 a0 x2) → 0 ≤ x2 ∧ x2 < 6 := by intros; omega) (b7 : (x1 = 4) → (μ 6 a0 x2 ≤ 99) → ((-99 : Int) ≤ μ 6 a0 x2) → ((0 : Int) ≤ μ 6 a0 x2) → 0 ≤ x2 ∧ x2 < 6 := by intros; omega) (k6 : (x1 = 4) → (μ 6 a0 x2 ≤ 99) → ((-99 : Int) ≤ μ 6 a0 x2) → ((0 : Int) ≤ μ 6 a0 x2) → Q (some (aI (μ 6 a0 x2))) μ) (b8 : (x1 = 4) → (μ 6 a0 x2 ≤ 99) → ((-99 : Int) ≤ μ 6 a0 x2) → (μ 6 a0 x2 < 0) → 0 ≤ x2 ∧ x2 < 6 := by intros; omega) (b9 : (x1 = 4) → (μ 6 a0 x2 ≤ 99) → ((-99 : Int) ≤ μ 6 a0 x2) → (μ 6 a0 x2 < 0) → -2147483648 ≤ -(μ 6 a0 x2) ∧ -(μ 6 a0 x2) < 2147483648 := by intros; omega) (k7 : (x1 = 4) → (μ 6 a0 x2 ≤ 99) → ((-99 : Int) ≤ μ 6 a0 x2) → (μ 6 a0 x2 < 0) → Q (some (aI (-(μ 6 a0 x2)))) μ) (k8 : (x1 = 4) → (μ 6 a0 x2 ≤ 99) → (μ 6 a0 x2 < (-99)) → Q (some (aI 99)) μ) (k9 : (x1 ≠ 0) → (x1 ≠ 1) → (x1 ≠ 2) → (x1 ≠ 3) → (x1 ≠ 4) → Q (some (aI (i_rem (μ 2 a0 1) 10))) μ) : Cal g (d + 1) m_Cr_quality [aR 2 a0, aI x1, aI x2] μ Q :=
  C_ent rfl (Nat.le_of_ble_eq_true rfl) (E_Cr_quality (k1 := k1) (b1 := b1) (k2 := k2) (b2 := b2) (k3 := k3) (b3 := b3) (k4 := k4) (b4 := b4) (k5 := k5) (b5 := b5) (b6 := b6) (b7 := b7) (k6 := k6) (b8 := b8) (b9 := b9) (k7 := k7) (k8 := k8) (k9 := k9))
theorem c_Cr_quality {g : aG} {d : Nat} {a0 x1 x2 : Int} {μ : aM} {Q : aQ} (p1 : 0 ≤ x2 ∧ x2 < 6) (p2 : 0 ≤ (μ 5 a0 x2)) (p3 : -999 ≤ (μ 6 a0 x2) ∧ (μ 6 a0 x2) ≤ 999) (p4 : 0 ≤ (μ 2 a0 1)) (p5 : (μ 5 a0 x2) ≤ 99) (p6 : (μ 2 a0 1) ≤ 1000000) (h : Q (some (aI (factF x2 (μ 3 a0 x2) (μ 4 a0 x2) (μ 5 a0 x2) (μ 6 a0 x2) (μ 2 a0 1) x1))) μ) : Cal g (d + 1) m_Cr_quality [aR 2 a0, aI x1, aI x2] μ Q := by
  refine C_ent rfl (Nat.le_of_ble_eq_true rfl) ?_
  refine E_Cr_quality (k1 := ?_) (k2 := ?_) (k3 := ?_) (k4 := ?_) (k5 := ?_) (k6 := ?_) (k7 := ?_) (k8 := ?_) (k9 := ?_)
  all_goals intros
  all_goals first | exact absurd ‹_› (by omega) | omega | exact qe h (by simp only [factF, clp]; (try rw [i_div_nn (x := μ 5 a0 x2) (y := 10) (by omega) (by omega) (by omega)]); (try rw [i_rem_nn (x := μ 2 a0 1) (y := 10) (by omega) (by omega) (by omega)]); (try rw [i_abs_e (x := μ 6 a0 x2) (by omega) (by omega)]); (repeat split) <;> omega)
theorem E_Tp_has {g : aG} {d : Nat} {a0 x1 : Int} {μ : aM} {Q : aQ} (k1 : (x1 < 0) → Q (some (aI 0)) μ) (k2 : ((0 : Int) ≤ x1) → (μ 29 a0 1 ≤ x1) → Q (some (aI 0)) μ) (k3 : ((0 : Int) ≤ x1) → (x1 < μ 29 a0 1) → Q (some (aI 1)) μ) : Rn g d m_Tp_has 0 [some (aR 29 a0), some (aI x1)] [] μ Q :=
  (R_blk 2 (And.intro (fun c1 => (R_blk 2 (And.intro (Or.inl rfl) (k1 c1)))) (fun c1 => (R_blk 4 (And.intro (fun c2 => (R_blk 2 (And.intro (Or.inl rfl) (k2 c1 c2)))) (fun c2 => (R_blk 3 (And.intro (Or.inr rfl) (k3 c1 c2)))))))))
theorem T_Tp_has {g : aG} {d : Nat} {a0 x1 : Int} {μ : aM} {Q : aQ} (k1 : (x1 < 0) → Q (some (aI 0)) μ) (k2 : ((0 : Int) ≤ x1) → (μ 29 a0 1 ≤ x1) → Q (some (aI 0)) μ) (k3 : ((0 : Int) ≤ x1) → (x1 < μ 29 a0 1) → Q (some (aI 1)) μ) : Cal g (d + 1) m_Tp_has [aR 29 a0, aI x1] μ Q :=
  C_ent rfl (Nat.le_of_ble_eq_true rfl) (E_Tp_has (k1 := k1) (k2 := k2) (k3 := k3))
theorem c_Tp_has {g : aG} {d : Nat} {a0 x1 : Int} {μ : aM} {Q : aQ}  (h : Q (some (aI (bI (0 ≤ x1 ∧ x1 < (μ 29 a0 1))))) μ) : Cal g (d + 1) m_Tp_has [aR 29 a0, aI x1] μ Q := by
  refine C_ent rfl (Nat.le_of_ble_eq_true rfl) ?_
  refine E_Tp_has (k1 := ?_) (k2 := ?_) (k3 := ?_)
  all_goals intros
  all_goals first | exact absurd ‹_› (by omega) | omega | exact qe h (by unfold bI; split <;> omega)
theorem E_Tp_hasRun {g : aG} {d : Nat} {a0 x1 x2 : Int} {μ : aM} {Q : aQ} (k1 : (x1 < 0) → Q (some (aI 0)) μ) (k2 : ((0 : Int) ≤ x1) → (x2 < 0) → Q (some (aI 0)) μ) (k3 : ((0 : Int) ≤ x1) → ((0 : Int) ≤ x2) → (μ 29 a0 1 < x2) → Q (some (aI 0)) μ) (b1 : ((0 : Int) ≤ x1) → ((0 : Int) ≤ x2) → (x2 ≤ μ 29 a0 1) → -2147483648 ≤ (μ 29 a0 1) - x2 ∧ (μ 29 a0 1) - x2 < 2147483648 := by intros; omega) (k4 : ((0 : Int) ≤ x1) → ((0 : Int) ≤ x2) → (x2 ≤ μ 29 a0 1) → ((μ 29 a0 1) - x2 < x1) → Q (some (aI 0)) μ) (k5 : ((0 : Int) ≤ x1) → ((0 : Int) ≤ x2) → (x2 ≤ μ 29 a0 1) → (x1 ≤ (μ 29 a0 1) - x2) → Q (some (aI 1)) μ) : Rn g d m_Tp_hasRun 0 [some (aR 29 a0), some (aI x1), some (aI x2)] [] μ Q :=
  (R_blk 2 (And.intro (fun c1 => (R_blk 2 (And.intro (Or.inl rfl) (k1 c1)))) (fun c1 => (R_blk 2 (And.intro (fun c2 => (R_blk 2 (And.intro (Or.inl rfl) (k2 c1 c2)))) (fun c2 => (R_blk 4 (And.intro (fun c3 => (R_blk 2 (And.intro (Or.inl rfl) (k3 c1 c2 c3)))) (fun c3 => (R_blk 5 (R_w (b1 c1 c2 c3) (R_blk 1 (And.intro (fun c4 => (R_blk 2 (And.intro (Or.inl rfl) (k4 c1 c2 c3 c4)))) (fun c4 => (R_blk 3 (And.intro (Or.inr rfl) (k5 c1 c2 c3 c4)))))))))))))))))
theorem T_Tp_hasRun {g : aG} {d : Nat} {a0 x1 x2 : Int} {μ : aM} {Q : aQ} (k1 : (x1 < 0) → Q (some (aI 0)) μ) (k2 : ((0 : Int) ≤ x1) → (x2 < 0) → Q (some (aI 0)) μ) (k3 : ((0 : Int) ≤ x1) → ((0 : Int) ≤ x2) → (μ 29 a0 1 < x2) → Q (some (aI 0)) μ) (b1 : ((0 : Int) ≤ x1) → ((0 : Int) ≤ x2) → (x2 ≤ μ 29 a0 1) → -2147483648 ≤ (μ 29 a0 1) - x2 ∧ (μ 29 a0 1) - x2 < 2147483648 := by intros; omega) (k4 : ((0 : Int) ≤ x1) → ((0 : Int) ≤ x2) → (x2 ≤ μ 29 a0 1) → ((μ 29 a0 1) - x2 < x1) → Q (some (aI 0)) μ) (k5 : ((0 : Int) ≤ x1) → ((0 : Int) ≤ x2) → (x2 ≤ μ 29 a0 1) → (x1 ≤ (μ 29 a0 1) - x2) → Q (some (aI 1)) μ) : Cal g (d + 1) m_Tp_hasRun [aR 29 a0, aI x1, aI x2] μ Q :=
  C_ent rfl (Nat.le_of_ble_eq_true rfl) (E_Tp_hasRun (k1 := k1) (k2 := k2) (k3 := k3) (b1 := b1) (k4 := k4) (k5 := k5))
theorem c_Tp_hasRun {g : aG} {d : Nat} {a0 x1 x2 : Int} {μ : aM} {Q : aQ} (p1 : 0 ≤ (μ 29 a0 1) ∧ (μ 29 a0 1) ≤ 60) (h : Q (some (aI (bI (0 ≤ x1 ∧ 0 ≤ x2 ∧ x2 ≤ (μ 29 a0 1) ∧ x1 + x2 ≤ (μ 29 a0 1))))) μ) : Cal g (d + 1) m_Tp_hasRun [aR 29 a0, aI x1, aI x2] μ Q := by
  refine C_ent rfl (Nat.le_of_ble_eq_true rfl) ?_
  refine E_Tp_hasRun (k1 := ?_) (k2 := ?_) (k3 := ?_) (k4 := ?_) (k5 := ?_)
  all_goals intros
  all_goals first | exact absurd ‹_› (by omega) | omega | exact qe h (by unfold bI; split <;> omega)
theorem E_Re_isAt {g : aG} {d : Nat} {x1 : Int} {μ : aM} {Q : aQ} (k1 : (μ 19 0 1 ≤ μ 19 0 2) → Q (some (aI 0)) μ) (b1 : (μ 19 0 2 < μ 19 0 1) → 0 ≤ μ 19 0 2 ∧ μ 19 0 2 < 100 := by intros; omega) (k2 : (μ 19 0 2 < μ 19 0 1) → (μ 20 0 (μ 19 0 2) ≠ x1) → Q (some (aI 0)) μ) (k3 : (μ 19 0 2 < μ 19 0 1) → (μ 20 0 (μ 19 0 2) = x1) → Q (some (aI 1)) μ) : Rn g d m_Re_isAt 0 [some (aR 19 0), some (aI x1)] [] μ Q :=
  (R_blk 5 (And.intro (fun c1 => (R_blk 2 (And.intro (Or.inl rfl) (k1 c1)))) (fun c1 => (R_blk 7 (And.intro (b1 c1) (And.intro (fun c2 => (R_blk 2 (And.intro (Or.inl rfl) (k2 c1 c2)))) (fun c2 => (R_blk 3 (And.intro (Or.inr rfl) (k3 c1 c2))))))))))
theorem T_Re_isAt {g : aG} {d : Nat} {x1 : Int} {μ : aM} {Q : aQ} (k1 : (μ 19 0 1 ≤ μ 19 0 2) → Q (some (aI 0)) μ) (b1 : (μ 19 0 2 < μ 19 0 1) → 0 ≤ μ 19 0 2 ∧ μ 19 0 2 < 100 := by intros; omega) (k2 : (μ 19 0 2 < μ 19 0 1) → (μ 20 0 (μ 19 0 2) ≠ x1) → Q (some (aI 0)) μ) (k3 : (μ 19 0 2 < μ 19 0 1) → (μ 20 0 (μ 19 0 2) = x1) → Q (some (aI 1)) μ) : Cal g (d + 1) m_Re_isAt [aR 19 0, aI x1] μ Q :=
  C_ent rfl (Nat.le_of_ble_eq_true rfl) (E_Re_isAt (k1 := k1) (b1 := b1) (k2 := k2) (k3 := k3))
theorem c_Re_isAt {g : aG} {d : Nat} {x1 : Int} {μ : aM} {Q : aQ} (p1 : 0 ≤ (μ 19 0 2)) (p2 : (μ 19 0 1) ≤ 100) (h : Q (some (aI (bI ((μ 19 0 2) < (μ 19 0 1) ∧ (μ 20 0 (μ 19 0 2)) = x1)))) μ) : Cal g (d + 1) m_Re_isAt [aR 19 0, aI x1] μ Q := by
  refine C_ent rfl (Nat.le_of_ble_eq_true rfl) ?_
  refine E_Re_isAt (k1 := ?_) (k2 := ?_) (k3 := ?_)
  all_goals intros
  all_goals first | exact absurd ‹_› (by omega) | omega | exact qe h (by unfold bI; split <;> omega)
theorem E_Re_isAtDigit {g : aG} {d : Nat} {μ : aM} {Q : aQ} (k1 : (μ 19 0 1 ≤ μ 19 0 2) → Q (some (aI 0)) μ) (b1 : (μ 19 0 2 < μ 19 0 1) → 0 ≤ μ 19 0 2 ∧ μ 19 0 2 < 100 := by intros; omega) (k2 : (μ 19 0 2 < μ 19 0 1) → (μ 20 0 (μ 19 0 2) < 48) → Q (some (aI 0)) μ) (b2 : (μ 19 0 2 < μ 19 0 1) → ((48 : Int) ≤ μ 20 0 (μ 19 0 2)) → 0 ≤ μ 19 0 2 ∧ μ 19 0 2 < 100 := by intros; omega) (k3 : (μ 19 0 2 < μ 19 0 1) → ((48 : Int) ≤ μ 20 0 (μ 19 0 2)) → ((57 : Int) < μ 20 0 (μ 19 0 2)) → Q (some (aI 0)) μ) (k4 : (μ 19 0 2 < μ 19 0 1) → ((48 : Int) ≤ μ 20 0 (μ 19 0 2)) → (μ 20 0 (μ 19 0 2) ≤ 57) → Q (some (aI 1)) μ) : Rn g d m_Re_isAtDigit 0 [some (aR 19 0)] [] μ Q :=
  (R_blk 5 (And.intro (fun c1 => (R_blk 2 (And.intro (Or.inl rfl) (k1 c1)))) (fun c1 => (R_blk 7 (And.intro (b1 c1) (And.intro (fun c2 => (R_blk 2 (And.intro (Or.inl rfl) (k2 c1 c2)))) (fun c2 => (R_blk 7 (And.intro (b2 c1 c2) (And.intro (fun c3 => (R_blk 2 (And.intro (Or.inl rfl) (k3 c1 c2 c3)))) (fun c3 => (R_blk 3 (And.intro (Or.inr rfl) (k4 c1 c2 c3))))))))))))))
theorem T_Re_isAtDigit {g : aG} {d : Nat} {μ : aM} {Q : aQ} (k1 : (μ 19 0 1 ≤ μ 19 0 2) → Q (some (aI 0)) μ) (b1 : (μ 19 0 2 < μ 19 0 1) → 0 ≤ μ 19 0 2 ∧ μ 19 0 2 < 100 := by intros; omega) (k2 : (μ 19 0 2 < μ 19 0 1) → (μ 20 0 (μ 19 0 2) < 48) → Q (some (aI 0)) μ) (b2 : (μ 19 0 2 < μ 19 0 1) → ((48 : Int) ≤ μ 20 0 (μ 19 0 2)) → 0 ≤ μ 19 0 2 ∧ μ 19 0 2 < 100 := by intros; omega) (k3 : (μ 19 0 2 < μ 19 0 1) → ((48 : Int) ≤ μ 20 0 (μ 19 0 2)) → ((57 : Int) < μ 20 0 (μ 19 0 2)) → Q (some (aI 0)) μ) (k4 : (μ 19 0 2 < μ 19 0 1) → ((48 : Int) ≤ μ 20 0 (μ 19 0 2)) → (μ 20 0 (μ 19 0 2) ≤ 57) → Q (some (aI 1)) μ) : Cal g (d + 1) m_Re_isAtDigit [aR 19 0] μ Q :=
  C_ent rfl (Nat.le_of_ble_eq_true rfl) (E_Re_isAtDigit (k1 := k1) (b1 := b1) (k2 := k2) (b2 := b2) (k3 := k3) (k4 := k4))
theorem c_Re_isAtDigit {g : aG} {d : Nat} {μ : aM} {Q : aQ} (p1 : 0 ≤ (μ 19 0 2)) (p2 : (μ 19 0 1) ≤ 100) (h : Q (some (aI (bI ((μ 19 0 2) < (μ 19 0 1) ∧ 48 ≤ (μ 20 0 (μ 19 0 2)) ∧ (μ 20 0 (μ 19 0 2)) ≤ 57)))) μ) : Cal g (d + 1) m_Re_isAtDigit [aR 19 0] μ Q := by
  refine C_ent rfl (Nat.le_of_ble_eq_true rfl) ?_
  refine E_Re_isAtDigit (k1 := ?_) (k2 := ?_) (k3 := ?_) (k4 := ?_)
  all_goals intros
  all_goals first | exact absurd ‹_› (by omega) | omega | exact qe h (by unfold bI; split <;> omega)
theorem E_Mo_isLate {g : aG} {d : Nat} {a1 x2 : Int} {μ : aM} {Q : aQ} (b1 : 0 ≤ x2 ∧ x2 < 6 := by intros; omega) (k1 : (μ 7 a1 x2 ≠ 0) → Q (some (aI 0)) μ) (b2 : (μ 7 a1 x2 = 0) → 0 ≤ x2 ∧ x2 < 6 := by intros; omega) (k2 : (μ 7 a1 x2 = 0) → (μ 22 0 x2 ≤ 0) → Q (some (aI 0)) μ) (k3 : (μ 7 a1 x2 = 0) → ((0 : Int) < μ 22 0 x2) → Q (some (aI 1)) μ) : Rn g d m_Mo_isLate 0 [some (aR 21 0), some (aR 2 a1), some (aI x2)] [] μ Q :=
  (R_blk 5 (And.intro b1 (And.intro (fun c1 => (R_blk 2 (And.intro (Or.inl rfl) (k1 c1)))) (fun c1 => (R_blk 5 (And.intro (b2 c1) (And.intro (fun c2 => (R_blk 2 (And.intro (Or.inl rfl) (k2 c1 c2)))) (fun c2 => (R_blk 3 (And.intro (Or.inr rfl) (k3 c1 c2)))))))))))
theorem T_Mo_isLate {g : aG} {d : Nat} {a1 x2 : Int} {μ : aM} {Q : aQ} (b1 : 0 ≤ x2 ∧ x2 < 6 := by intros; omega) (k1 : (μ 7 a1 x2 ≠ 0) → Q (some (aI 0)) μ) (b2 : (μ 7 a1 x2 = 0) → 0 ≤ x2 ∧ x2 < 6 := by intros; omega) (k2 : (μ 7 a1 x2 = 0) → (μ 22 0 x2 ≤ 0) → Q (some (aI 0)) μ) (k3 : (μ 7 a1 x2 = 0) → ((0 : Int) < μ 22 0 x2) → Q (some (aI 1)) μ) : Cal g (d + 1) m_Mo_isLate [aR 21 0, aR 2 a1, aI x2] μ Q :=
  C_ent rfl (Nat.le_of_ble_eq_true rfl) (E_Mo_isLate (b1 := b1) (k1 := k1) (b2 := b2) (k2 := k2) (k3 := k3))
theorem c_Mo_isLate {g : aG} {d : Nat} {a1 x2 : Int} {μ : aM} {Q : aQ} (p1 : 0 ≤ x2 ∧ x2 < 6) (h : Q (some (aI (bI ((μ 7 a1 x2) = 0 ∧ 0 < (μ 22 0 x2))))) μ) : Cal g (d + 1) m_Mo_isLate [aR 21 0, aR 2 a1, aI x2] μ Q := by
  refine C_ent rfl (Nat.le_of_ble_eq_true rfl) ?_
  refine E_Mo_isLate (k1 := ?_) (k2 := ?_) (k3 := ?_)
  all_goals intros
  all_goals first | exact absurd ‹_› (by omega) | omega | exact qe h (by unfold bI; split <;> omega)
theorem E_Mo_held {g : aG} {d : Nat} {x0 : Int} {μ : aM} {Q : aQ} (k1 : Q (some (aI (i_max (-999) (i_min 999 x0)))) μ) : Rn g d m_Mo_held 0 [some (aI x0)] [] μ Q :=
  (R_blk 6 (And.intro (Nat.le_of_ble_eq_true rfl) (And.intro (Nat.le_of_ble_eq_true rfl) (And.intro trivial k1))))
theorem T_Mo_held {g : aG} {d : Nat} {x0 : Int} {μ : aM} {Q : aQ} (k1 : Q (some (aI (i_max (-999) (i_min 999 x0)))) μ) : Cal g (d + 1) m_Mo_held [aI x0] μ Q :=
  C_ent rfl (Nat.le_of_ble_eq_true rfl) (E_Mo_held (k1 := k1))
theorem c_Mo_held {g : aG} {d : Nat} {x0 : Int} {μ : aM} {Q : aQ}  (h : Q (some (aI (clp 999 x0))) μ) : Cal g (d + 1) m_Mo_held [aI x0] μ Q := by
  refine C_ent rfl (Nat.le_of_ble_eq_true rfl) ?_
  refine E_Mo_held (k1 := ?_)
  all_goals intros
  all_goals first | exact absurd ‹_› (by omega) | omega | exact qe h (by unfold clp i_max i_min; (repeat split) <;> omega)
theorem E_Ac_bodyIn {g : aG} {d : Nat} {x0 x1 : Int} {μ : aM} {Q : aQ} (b1 : (x0 = 0) → -2147483648 ≤ 10 + x1 ∧ 10 + x1 < 2147483648 := by intros; omega) (k1 : (x0 = 0) → Q (some (aI (10 + x1))) μ) (k2 : (x0 = 1) → (x1 ≠ 1) → Q (some (aI 0)) μ) (k3 : (x0 = 1) → (x1 = 1) → Q (some (aI 20)) μ) (k4 : (x0 = 2) → (x1 ≠ 0) → Q (some (aI 0)) μ) (k5 : (x0 = 2) → (x1 = 0) → Q (some (aI 30)) μ) (k6 : (x0 = 3) → (x1 ≠ 2) → Q (some (aI 0)) μ) (k7 : (x0 = 3) → (x1 = 2) → Q (some (aI 40)) μ) (k8 : (x0 = 4) → (x1 ≠ 0) → (x1 ≠ 1) → Q (some (aI 0)) μ) (k9 : (x0 = 4) → (x1 ≠ 0) → (x1 = 1) → Q (some (aI 51)) μ) (k10 : (x0 = 4) → (x1 = 0) → Q (some (aI 50)) μ) (k11 : (x0 = 5) → (x1 ≠ 2) → Q (some (aI 0)) μ) (k12 : (x0 = 5) → (x1 = 2) → Q (some (aI 60)) μ) (k13 : (x0 ≠ 0) → (x0 ≠ 1) → (x0 ≠ 2) → (x0 ≠ 3) → (x0 ≠ 4) → (x0 ≠ 5) → (x1 ≠ 1) → (x1 ≠ 0) → Q (some (aI 0)) μ) (k14 : (x0 ≠ 0) → (x0 ≠ 1) → (x0 ≠ 2) → (x0 ≠ 3) → (x0 ≠ 4) → (x0 ≠ 5) → (x1 ≠ 1) → (x1 = 0) → Q (some (aI 71)) μ) (k15 : (x0 ≠ 0) → (x0 ≠ 1) → (x0 ≠ 2) → (x0 ≠ 3) → (x0 ≠ 4) → (x0 ≠ 5) → (x1 = 1) → Q (some (aI 70)) μ) : Rn g d m_Ac_bodyIn 0 [some (aI x0), some (aI x1)] [] μ Q :=
  (R_blk 2 (And.intro (fun c1 => (R_blk 3 (R_w (b1 c1) (R_blk 1 (And.intro trivial (k1 c1)))))) (fun c1 => (And.intro (fun c2 => (R_blk 3 (And.intro (fun c3 => (R_blk 2 (And.intro trivial (k2 c2 c3)))) (fun c3 => (R_blk 3 (And.intro trivial (k3 c2 c3))))))) (fun c2 => (And.intro (fun c4 => (R_blk 2 (And.intro (fun c5 => (R_blk 2 (And.intro trivial (k4 c4 c5)))) (fun c5 => (R_blk 3 (And.intro trivial (k5 c4 c5))))))) (fun c4 => (And.intro (fun c6 => (R_blk 3 (And.intro (fun c7 => (R_blk 2 (And.intro trivial (k6 c6 c7)))) (fun c7 => (R_blk 3 (And.intro trivial (k7 c6 c7))))))) (fun c6 => (And.intro (fun c8 => (R_blk 2 (And.intro (fun c9 => (R_blk 3 (And.intro (fun c10 => (R_blk 2 (And.intro trivial (k8 c8 c9 c10)))) (fun c10 => (R_blk 3 (And.intro trivial (k9 c8 c9 c10))))))) (fun c9 => (R_blk 3 (And.intro trivial (k10 c8 c9))))))) (fun c8 => (And.intro (fun c11 => (R_blk 3 (And.intro (fun c12 => (R_blk 2 (And.intro trivial (k11 c11 c12)))) (fun c12 => (R_blk 3 (And.intro trivial (k12 c11 c12))))))) (fun c11 => (R_blk 3 (And.intro (fun c13 => (R_blk 2 (And.intro (fun c14 => (R_blk 2 (And.intro trivial (k13 c1 c2 c4 c6 c8 c11 c13 c14)))) (fun c14 => (R_blk 3 (And.intro trivial (k14 c1 c2 c4 c6 c8 c11 c13 c14))))))) (fun c13 => (R_blk 3 (And.intro trivial (k15 c1 c2 c4 c6 c8 c11 c13)))))))))))))))))))
theorem T_Ac_bodyIn {g : aG} {d : Nat} {x0 x1 : Int} {μ : aM} {Q : aQ} (b1 : (x0 = 0) → -2147483648 ≤ 10 + x1 ∧ 10 + x1 < 2147483648 := by intros; omega) (k1 : (x0 = 0) → Q (some (aI (10 + x1))) μ) (k2 : (x0 = 1) → (x1 ≠ 1) → Q (some (aI 0)) μ) (k3 : (x0 = 1) → (x1 = 1) → Q (some (aI 20)) μ) (k4 : (x0 = 2) → (x1 ≠ 0) → Q (some (aI 0)) μ) (k5 : (x0 = 2) → (x1 = 0) → Q (some (aI 30)) μ) (k6 : (x0 = 3) → (x1 ≠ 2) → Q (some (aI 0)) μ) (k7 : (x0 = 3) → (x1 = 2) → Q (some (aI 40)) μ) (k8 : (x0 = 4) → (x1 ≠ 0) → (x1 ≠ 1) → Q (some (aI 0)) μ) (k9 : (x0 = 4) → (x1 ≠ 0) → (x1 = 1) → Q (some (aI 51)) μ) (k10 : (x0 = 4) → (x1 = 0) → Q (some (aI 50)) μ) (k11 : (x0 = 5) → (x1 ≠ 2) → Q (some (aI 0)) μ) (k12 : (x0 = 5) → (x1 = 2) → Q (some (aI 60)) μ) (k13 : (x0 ≠ 0) → (x0 ≠ 1) → (x0 ≠ 2) → (x0 ≠ 3) → (x0 ≠ 4) → (x0 ≠ 5) → (x1 ≠ 1) → (x1 ≠ 0) → Q (some (aI 0)) μ) (k14 : (x0 ≠ 0) → (x0 ≠ 1) → (x0 ≠ 2) → (x0 ≠ 3) → (x0 ≠ 4) → (x0 ≠ 5) → (x1 ≠ 1) → (x1 = 0) → Q (some (aI 71)) μ) (k15 : (x0 ≠ 0) → (x0 ≠ 1) → (x0 ≠ 2) → (x0 ≠ 3) → (x0 ≠ 4) → (x0 ≠ 5) → (x1 = 1) → Q (some (aI 70)) μ) : Cal g (d + 1) m_Ac_bodyIn [aI x0, aI x1] μ Q :=
  C_ent rfl (Nat.le_of_ble_eq_true rfl) (E_Ac_bodyIn (b1 := b1) (k1 := k1) (k2 := k2) (k3 := k3) (k4 := k4) (k5 := k5) (k6 := k6) (k7 := k7) (k8 := k8) (k9 := k9) (k10 := k10) (k11 := k11) (k12 := k12) (k13 := k13) (k14 := k14) (k15 := k15))
theorem c_Ac_bodyIn {g : aG} {d : Nat} {x0 x1 : Int} {μ : aM} {Q : aQ} (p1 : 0 ≤ x1 ∧ x1 ≤ 2) (h : Q (some (aI (bodyF x0 x1))) μ) : Cal g (d + 1) m_Ac_bodyIn [aI x0, aI x1] μ Q := by
  refine C_ent rfl (Nat.le_of_ble_eq_true rfl) ?_
  refine E_Ac_bodyIn (k1 := ?_) (k2 := ?_) (k3 := ?_) (k4 := ?_) (k5 := ?_) (k6 := ?_) (k7 := ?_) (k8 := ?_) (k9 := ?_) (k10 := ?_) (k11 := ?_) (k12 := ?_) (k13 := ?_) (k14 := ?_) (k15 := ?_)
  all_goals intros
  all_goals first | exact absurd ‹_› (by omega) | omega | exact qe h (by unfold bodyF; (repeat split) <;> omega)
theorem E_M_in {g : aG} {d : Nat} {x1 x2 x3 : Int} {μ : aM} {Q : aQ} (k1 : (x1 < x2) → Q (some (aI 0)) μ) (k2 : (x2 ≤ x1) → (x3 < x1) → Q (some (aI 0)) μ) (k3 : (x2 ≤ x1) → (x1 ≤ x3) → Q (some (aI 1)) μ) : Rn g d m_M_in 0 [some (aR 31 0), some (aI x1), some (aI x2), some (aI x3)] [] μ Q :=
  (R_blk 3 (And.intro (fun c1 => (R_blk 2 (And.intro (Or.inl rfl) (k1 c1)))) (fun c1 => (R_blk 3 (And.intro (fun c2 => (R_blk 2 (And.intro (Or.inl rfl) (k2 c1 c2)))) (fun c2 => (R_blk 3 (And.intro (Or.inr rfl) (k3 c1 c2)))))))))
theorem T_M_in {g : aG} {d : Nat} {x1 x2 x3 : Int} {μ : aM} {Q : aQ} (k1 : (x1 < x2) → Q (some (aI 0)) μ) (k2 : (x2 ≤ x1) → (x3 < x1) → Q (some (aI 0)) μ) (k3 : (x2 ≤ x1) → (x1 ≤ x3) → Q (some (aI 1)) μ) : Cal g (d + 1) m_M_in [aR 31 0, aI x1, aI x2, aI x3] μ Q :=
  C_ent rfl (Nat.le_of_ble_eq_true rfl) (E_M_in (k1 := k1) (k2 := k2) (k3 := k3))
theorem c_M_in {g : aG} {d : Nat} {x1 x2 x3 : Int} {μ : aM} {Q : aQ}  (h : Q (some (aI (bI (x2 ≤ x1 ∧ x1 ≤ x3)))) μ) : Cal g (d + 1) m_M_in [aR 31 0, aI x1, aI x2, aI x3] μ Q := by
  refine C_ent rfl (Nat.le_of_ble_eq_true rfl) ?_
  refine E_M_in (k1 := ?_) (k2 := ?_) (k3 := ?_)
  all_goals intros
  all_goals first | exact absurd ‹_› (by omega) | omega | exact qe h (by unfold bI; split <;> omega)
theorem E_M_has {g : aG} {d : Nat} {x1 x2 : Int} {μ : aM} {Q : aQ} (k1 : (b_and (b_shr x1 x2) 1 ≠ 1) → Q (some (aI 0)) μ) (k2 : (b_and (b_shr x1 x2) 1 = 1) → Q (some (aI 1)) μ) : Rn g d m_M_has 0 [some (aR 31 0), some (aI x1), some (aI x2)] [] μ Q :=
  (R_blk 7 (And.intro (fun c1 => (R_blk 2 (And.intro (Or.inl rfl) (k1 c1)))) (fun c1 => (R_blk 3 (And.intro (Or.inr rfl) (k2 c1))))))
theorem T_M_has {g : aG} {d : Nat} {x1 x2 : Int} {μ : aM} {Q : aQ} (k1 : (b_and (b_shr x1 x2) 1 ≠ 1) → Q (some (aI 0)) μ) (k2 : (b_and (b_shr x1 x2) 1 = 1) → Q (some (aI 1)) μ) : Cal g (d + 1) m_M_has [aR 31 0, aI x1, aI x2] μ Q :=
  C_ent rfl (Nat.le_of_ble_eq_true rfl) (E_M_has (k1 := k1) (k2 := k2))
theorem c_M_has {g : aG} {d : Nat} {x1 x2 : Int} {μ : aM} {Q : aQ}  (h : Q (some (aI (bI (b_and (b_shr x1 x2) 1 = 1)))) μ) : Cal g (d + 1) m_M_has [aR 31 0, aI x1, aI x2] μ Q := by
  refine C_ent rfl (Nat.le_of_ble_eq_true rfl) ?_
  refine E_M_has (k1 := ?_) (k2 := ?_)
  all_goals intros
  all_goals first | exact absurd ‹_› (by omega) | omega | exact qe h (by unfold bI; split <;> omega)
theorem E_M_held {g : aG} {d : Nat} {x1 x2 : Int} {μ : aM} {Q : aQ} (b1 : -2147483648 ≤ -x2 ∧ -x2 < 2147483648 := by intros; omega) (k1 : (-x2 ≤ x1) → (x1 ≤ x2) → Q (some (aI x1)) μ) (k2 : (-x2 ≤ x1) → (x2 < x1) → Q (some (aI x2)) μ) (b2 : (x1 < -x2) → -2147483648 ≤ -x2 ∧ -x2 < 2147483648 := by intros; omega) (k3 : (x1 < -x2) → Q (some (aI (-x2))) μ) : Rn g d m_M_held 0 [some (aR 31 0), some (aI x1), some (aI x2)] [] μ Q :=
  (R_blk 3 (R_w b1 (R_blk 1 (And.intro (fun c1 => (R_blk 3 (And.intro (fun c2 => (R_blk 2 (And.intro trivial (k1 c1 c2)))) (fun c2 => (R_blk 3 (And.intro trivial (k2 c1 c2))))))) (fun c1 => (R_blk 2 (R_w (b2 c1) (R_blk 2 (And.intro trivial (k3 c1))))))))))
theorem T_M_held {g : aG} {d : Nat} {x1 x2 : Int} {μ : aM} {Q : aQ} (b1 : -2147483648 ≤ -x2 ∧ -x2 < 2147483648 := by intros; omega) (k1 : (-x2 ≤ x1) → (x1 ≤ x2) → Q (some (aI x1)) μ) (k2 : (-x2 ≤ x1) → (x2 < x1) → Q (some (aI x2)) μ) (b2 : (x1 < -x2) → -2147483648 ≤ -x2 ∧ -x2 < 2147483648 := by intros; omega) (k3 : (x1 < -x2) → Q (some (aI (-x2))) μ) : Cal g (d + 1) m_M_held [aR 31 0, aI x1, aI x2] μ Q :=
  C_ent rfl (Nat.le_of_ble_eq_true rfl) (E_M_held (b1 := b1) (k1 := k1) (k2 := k2) (b2 := b2) (k3 := k3))
theorem c_M_held {g : aG} {d : Nat} {x1 x2 : Int} {μ : aM} {Q : aQ} (p1 : 0 ≤ x2 ∧ x2 ≤ 2147483647) (h : Q (some (aI (clp x2 x1))) μ) : Cal g (d + 1) m_M_held [aR 31 0, aI x1, aI x2] μ Q := by
  refine C_ent rfl (Nat.le_of_ble_eq_true rfl) ?_
  refine E_M_held (k1 := ?_) (k2 := ?_) (k3 := ?_)
  all_goals intros
  all_goals first | exact absurd ‹_› (by omega) | omega | exact qe h (by unfold clp; (repeat split) <;> omega)
theorem E_M_far {g : aG} {d : Nat} {x1 : Int} {μ : aM} {Q : aQ} (k1 : ((0 : Int) ≤ x1) → Q (some (aI x1)) μ) (b1 : (x1 < 0) → -2147483648 ≤ -x1 ∧ -x1 < 2147483648 := by intros; omega) (k2 : (x1 < 0) → Q (some (aI (-x1))) μ) : Rn g d m_M_far 0 [some (aR 31 0), some (aI x1)] [] μ Q :=
  (R_blk 2 (And.intro (fun c1 => (R_blk 2 (And.intro trivial (k1 c1)))) (fun c1 => (R_blk 2 (R_w (b1 c1) (R_blk 2 (And.intro trivial (k2 c1))))))))
theorem T_M_far {g : aG} {d : Nat} {x1 : Int} {μ : aM} {Q : aQ} (k1 : ((0 : Int) ≤ x1) → Q (some (aI x1)) μ) (b1 : (x1 < 0) → -2147483648 ≤ -x1 ∧ -x1 < 2147483648 := by intros; omega) (k2 : (x1 < 0) → Q (some (aI (-x1))) μ) : Cal g (d + 1) m_M_far [aR 31 0, aI x1] μ Q :=
  C_ent rfl (Nat.le_of_ble_eq_true rfl) (E_M_far (k1 := k1) (b1 := b1) (k2 := k2))
theorem c_M_far {g : aG} {d : Nat} {x1 : Int} {μ : aM} {Q : aQ} (p1 : -2147483647 ≤ x1 ∧ x1 ≤ 2147483647) (h : Q (some (aI (i_abs x1))) μ) : Cal g (d + 1) m_M_far [aR 31 0, aI x1] μ Q := by
  refine C_ent rfl (Nat.le_of_ble_eq_true rfl) ?_
  refine E_M_far (k1 := ?_) (k2 := ?_)
  all_goals intros
  all_goals first | exact absurd ‹_› (by omega) | omega | exact qe h (by rw [i_abs_e (by omega) (by omega)]; split <;> omega)
theorem E_M_isPerson {g : aG} {d : Nat} {x1 : Int} {μ : aM} {Q : aQ} (b1 : -2147483648 ≤ (μ 31 0 0) - 1 ∧ (μ 31 0 0) - 1 < 2147483648 := by intros; omega) (k1 : Q (some (aI (bI (0 ≤ x1 ∧ x1 ≤ ((μ 31 0 0) - 1))))) μ) : Rn g (d + 1) m_M_isPerson 0 [some (aR 31 0), some (aI x1)] [] μ Q :=
  (R_blk 7 (R_w b1 (R_blk 1 (And.intro (Nat.le_of_ble_eq_true rfl) (c_M_in (R_blk 1 (And.intro bI_01 k1)))))))
theorem T_M_isPerson {g : aG} {d : Nat} {x1 : Int} {μ : aM} {Q : aQ} (b1 : -2147483648 ≤ (μ 31 0 0) - 1 ∧ (μ 31 0 0) - 1 < 2147483648 := by intros; omega) (k1 : Q (some (aI (bI (0 ≤ x1 ∧ x1 ≤ ((μ 31 0 0) - 1))))) μ) : Cal g (d + 2) m_M_isPerson [aR 31 0, aI x1] μ Q :=
  C_ent rfl (Nat.le_of_ble_eq_true rfl) (E_M_isPerson (b1 := b1) (k1 := k1))
theorem c_M_isPerson {g : aG} {d : Nat} {x1 : Int} {μ : aM} {Q : aQ} (p1 : 0 ≤ (μ 31 0 0) ∧ (μ 31 0 0) ≤ 6) (h : Q (some (aI (bI (0 ≤ x1 ∧ x1 < (μ 31 0 0))))) μ) : Cal g (d + 2) m_M_isPerson [aR 31 0, aI x1] μ Q := by
  refine C_ent rfl (Nat.le_of_ble_eq_true rfl) ?_
  refine E_M_isPerson (k1 := ?_)
  all_goals intros
  all_goals first | exact absurd ‹_› (by omega) | omega | exact qe h (by unfold bI; split <;> omega)
theorem E_M_isOff {g : aG} {d : Nat} {x1 : Int} {μ : aM} {Q : aQ} (k1 : Q (some (aI (bI ((-999) ≤ x1 ∧ x1 ≤ 999)))) μ) : Rn g (d + 1) m_M_isOff 0 [some (aR 31 0), some (aI x1)] [] μ Q :=
  (R_blk 5 (And.intro (Nat.le_of_ble_eq_true rfl) (c_M_in (R_blk 1 (And.intro bI_01 k1)))))
theorem T_M_isOff {g : aG} {d : Nat} {x1 : Int} {μ : aM} {Q : aQ} (k1 : Q (some (aI (bI ((-999) ≤ x1 ∧ x1 ≤ 999)))) μ) : Cal g (d + 2) m_M_isOff [aR 31 0, aI x1] μ Q :=
  C_ent rfl (Nat.le_of_ble_eq_true rfl) (E_M_isOff (k1 := k1))
theorem c_M_isOff {g : aG} {d : Nat} {x1 : Int} {μ : aM} {Q : aQ}  (h : Q (some (aI (bI (-999 ≤ x1 ∧ x1 ≤ 999)))) μ) : Cal g (d + 2) m_M_isOff [aR 31 0, aI x1] μ Q := by
  refine C_ent rfl (Nat.le_of_ble_eq_true rfl) ?_
  refine E_M_isOff (k1 := ?_)
  all_goals intros
  all_goals first | exact absurd ‹_› (by omega) | omega | exact qe h (by unfold bI; split <;> omega)
theorem E_M_isDue {g : aG} {d : Nat} {x1 : Int} {μ : aM} {Q : aQ} (k1 : Q (some (aI (bI (0 ≤ x1 ∧ x1 ≤ 99)))) μ) : Rn g (d + 1) m_M_isDue 0 [some (aR 31 0), some (aI x1)] [] μ Q :=
  (R_blk 5 (And.intro (Nat.le_of_ble_eq_true rfl) (c_M_in (R_blk 1 (And.intro bI_01 k1)))))
theorem T_M_isDue {g : aG} {d : Nat} {x1 : Int} {μ : aM} {Q : aQ} (k1 : Q (some (aI (bI (0 ≤ x1 ∧ x1 ≤ 99)))) μ) : Cal g (d + 2) m_M_isDue [aR 31 0, aI x1] μ Q :=
  C_ent rfl (Nat.le_of_ble_eq_true rfl) (E_M_isDue (k1 := k1))
theorem c_M_isDue {g : aG} {d : Nat} {x1 : Int} {μ : aM} {Q : aQ}  (h : Q (some (aI (bI (0 ≤ x1 ∧ x1 ≤ 99)))) μ) : Cal g (d + 2) m_M_isDue [aR 31 0, aI x1] μ Q := by
  refine C_ent rfl (Nat.le_of_ble_eq_true rfl) ?_
  refine E_M_isDue (k1 := ?_)
  all_goals intros
  all_goals first | exact absurd ‹_› (by omega) | omega | exact qe h (by unfold bI; split <;> omega)
theorem E_M_isDays {g : aG} {d : Nat} {x1 : Int} {μ : aM} {Q : aQ} (k1 : Q (some (aI (bI (0 ≤ x1 ∧ x1 ≤ 60)))) μ) : Rn g (d + 1) m_M_isDays 0 [some (aR 31 0), some (aI x1)] [] μ Q :=
  (R_blk 5 (And.intro (Nat.le_of_ble_eq_true rfl) (c_M_in (R_blk 1 (And.intro bI_01 k1)))))
theorem T_M_isDays {g : aG} {d : Nat} {x1 : Int} {μ : aM} {Q : aQ} (k1 : Q (some (aI (bI (0 ≤ x1 ∧ x1 ≤ 60)))) μ) : Cal g (d + 2) m_M_isDays [aR 31 0, aI x1] μ Q :=
  C_ent rfl (Nat.le_of_ble_eq_true rfl) (E_M_isDays (k1 := k1))
theorem c_M_isDays {g : aG} {d : Nat} {x1 : Int} {μ : aM} {Q : aQ}  (h : Q (some (aI (bI (0 ≤ x1 ∧ x1 ≤ 60)))) μ) : Cal g (d + 2) m_M_isDays [aR 31 0, aI x1] μ Q := by
  refine C_ent rfl (Nat.le_of_ble_eq_true rfl) ?_
  refine E_M_isDays (k1 := ?_)
  all_goals intros
  all_goals first | exact absurd ‹_› (by omega) | omega | exact qe h (by unfold bI; split <;> omega)
theorem E_M_isTape {g : aG} {d : Nat} {x1 : Int} {μ : aM} {Q : aQ} (k1 : Q (some (aI (bI (0 ≤ x1 ∧ x1 ≤ 5)))) μ) : Rn g (d + 1) m_M_isTape 0 [some (aR 31 0), some (aI x1)] [] μ Q :=
  (R_blk 5 (And.intro (Nat.le_of_ble_eq_true rfl) (c_M_in (R_blk 1 (And.intro bI_01 k1)))))
theorem T_M_isTape {g : aG} {d : Nat} {x1 : Int} {μ : aM} {Q : aQ} (k1 : Q (some (aI (bI (0 ≤ x1 ∧ x1 ≤ 5)))) μ) : Cal g (d + 2) m_M_isTape [aR 31 0, aI x1] μ Q :=
  C_ent rfl (Nat.le_of_ble_eq_true rfl) (E_M_isTape (k1 := k1))
theorem c_M_isTape {g : aG} {d : Nat} {x1 : Int} {μ : aM} {Q : aQ}  (h : Q (some (aI (bI (0 ≤ x1 ∧ x1 ≤ 5)))) μ) : Cal g (d + 2) m_M_isTape [aR 31 0, aI x1] μ Q := by
  refine C_ent rfl (Nat.le_of_ble_eq_true rfl) ?_
  refine E_M_isTape (k1 := ?_)
  all_goals intros
  all_goals first | exact absurd ‹_› (by omega) | omega | exact qe h (by unfold bI; split <;> omega)
theorem E_M_next {g : aG} {d : Nat} {μ : aM} {Q : aQ} (k1 : (μ 31 0 10 ≤ μ 31 0 11) → Q (some (aI (-1))) μ) (b1 : (μ 31 0 11 < μ 31 0 10) → 0 ≤ μ 31 0 11 ∧ μ 31 0 11 < 100 := by intros; omega) (k2 : (μ 31 0 11 < μ 31 0 10) → Q (some (aI (μ 37 0 (μ 31 0 11)))) μ) : Rn g d m_M_next 0 [some (aR 31 0)] [] μ Q :=
  (R_blk 5 (And.intro (fun c1 => (R_blk 2 (And.intro trivial (k1 c1)))) (fun c1 => (R_blk 7 (And.intro (b1 c1) (And.intro trivial (k2 c1)))))))
theorem T_M_next {g : aG} {d : Nat} {μ : aM} {Q : aQ} (k1 : (μ 31 0 10 ≤ μ 31 0 11) → Q (some (aI (-1))) μ) (b1 : (μ 31 0 11 < μ 31 0 10) → 0 ≤ μ 31 0 11 ∧ μ 31 0 11 < 100 := by intros; omega) (k2 : (μ 31 0 11 < μ 31 0 10) → Q (some (aI (μ 37 0 (μ 31 0 11)))) μ) : Cal g (d + 1) m_M_next [aR 31 0] μ Q :=
  C_ent rfl (Nat.le_of_ble_eq_true rfl) (E_M_next (k1 := k1) (b1 := b1) (k2 := k2))
theorem c_M_next {g : aG} {d : Nat} {μ : aM} {Q : aQ} (p1 : 0 ≤ (μ 31 0 11)) (p2 : (μ 31 0 10) ≤ 100) (h : Q (some (aI (if (μ 31 0 11) < (μ 31 0 10) then (μ 37 0 (μ 31 0 11)) else -1))) μ) : Cal g (d + 1) m_M_next [aR 31 0] μ Q := by
  refine C_ent rfl (Nat.le_of_ble_eq_true rfl) ?_
  refine E_M_next (k1 := ?_) (k2 := ?_)
  all_goals intros
  all_goals first | exact absurd ‹_› (by omega) | omega | exact qe h (by split <;> omega)
theorem E_M_second {g : aG} {d : Nat} {μ : aM} {Q : aQ} (b1 : -2147483648 ≤ (μ 31 0 11) + 1 ∧ (μ 31 0 11) + 1 < 2147483648 := by intros; omega) (k1 : (μ 31 0 10 ≤ (μ 31 0 11) + 1) → Q (some (aI (-1))) μ) (b2 : ((μ 31 0 11) + 1 < μ 31 0 10) → -2147483648 ≤ (μ 31 0 11) + 1 ∧ (μ 31 0 11) + 1 < 2147483648 := by intros; omega) (b3 : ((μ 31 0 11) + 1 < μ 31 0 10) → 0 ≤ (μ 31 0 11) + 1 ∧ (μ 31 0 11) + 1 < 100 := by intros; omega) (k2 : ((μ 31 0 11) + 1 < μ 31 0 10) → Q (some (aI (μ 37 0 ((μ 31 0 11) + 1)))) μ) : Rn g d m_M_second 0 [some (aR 31 0)] [] μ Q :=
  (R_blk 4 (R_w b1 (R_blk 3 (And.intro (fun c1 => (R_blk 2 (And.intro trivial (k1 c1)))) (fun c1 => (R_blk 6 (R_w (b2 c1) (R_blk 3 (And.intro (b3 c1) (And.intro trivial (k2 c1)))))))))))
theorem T_M_second {g : aG} {d : Nat} {μ : aM} {Q : aQ} (b1 : -2147483648 ≤ (μ 31 0 11) + 1 ∧ (μ 31 0 11) + 1 < 2147483648 := by intros; omega) (k1 : (μ 31 0 10 ≤ (μ 31 0 11) + 1) → Q (some (aI (-1))) μ) (b2 : ((μ 31 0 11) + 1 < μ 31 0 10) → -2147483648 ≤ (μ 31 0 11) + 1 ∧ (μ 31 0 11) + 1 < 2147483648 := by intros; omega) (b3 : ((μ 31 0 11) + 1 < μ 31 0 10) → 0 ≤ (μ 31 0 11) + 1 ∧ (μ 31 0 11) + 1 < 100 := by intros; omega) (k2 : ((μ 31 0 11) + 1 < μ 31 0 10) → Q (some (aI (μ 37 0 ((μ 31 0 11) + 1)))) μ) : Cal g (d + 1) m_M_second [aR 31 0] μ Q :=
  C_ent rfl (Nat.le_of_ble_eq_true rfl) (E_M_second (b1 := b1) (k1 := k1) (b2 := b2) (b3 := b3) (k2 := k2))
theorem c_M_second {g : aG} {d : Nat} {μ : aM} {Q : aQ} (p1 : 0 ≤ (μ 31 0 11)) (p2 : (μ 31 0 11) ≤ 100) (p3 : (μ 31 0 10) ≤ 100) (h : Q (some (aI (if (μ 31 0 11) + 1 < (μ 31 0 10) then (μ 37 0 ((μ 31 0 11) + 1)) else -1))) μ) : Cal g (d + 1) m_M_second [aR 31 0] μ Q := by
  refine C_ent rfl (Nat.le_of_ble_eq_true rfl) ?_
  refine E_M_second (k1 := ?_) (k2 := ?_)
  all_goals intros
  all_goals first | exact absurd ‹_› (by omega) | omega | exact qe h (by split <;> omega)
theorem E_M_isDigit {g : aG} {d : Nat} {μ : aM} {Q : aQ} (b1 : 0 ≤ (μ 31 0 11) := by intros; omega) (b2 : (μ 31 0 10) ≤ 100 := by intros; omega) (k1 : Q (some (aI (bI (48 ≤ (if (μ 31 0 11) < (μ 31 0 10) then (μ 37 0 (μ 31 0 11)) else -1) ∧ (if (μ 31 0 11) < (μ 31 0 10) then (μ 37 0 (μ 31 0 11)) else -1) ≤ 57)))) μ) : Rn g (d + 1) m_M_isDigit 0 [some (aR 31 0)] [] μ Q :=
  (R_blk 3 (And.intro (Nat.le_of_ble_eq_true rfl) (c_M_next b1 b2 (R_blk 3 (And.intro (Nat.le_of_ble_eq_true rfl) (c_M_in (R_blk 1 (And.intro bI_01 k1))))))))
theorem T_M_isDigit {g : aG} {d : Nat} {μ : aM} {Q : aQ} (b1 : 0 ≤ (μ 31 0 11) := by intros; omega) (b2 : (μ 31 0 10) ≤ 100 := by intros; omega) (k1 : Q (some (aI (bI (48 ≤ (if (μ 31 0 11) < (μ 31 0 10) then (μ 37 0 (μ 31 0 11)) else -1) ∧ (if (μ 31 0 11) < (μ 31 0 10) then (μ 37 0 (μ 31 0 11)) else -1) ≤ 57)))) μ) : Cal g (d + 2) m_M_isDigit [aR 31 0] μ Q :=
  C_ent rfl (Nat.le_of_ble_eq_true rfl) (E_M_isDigit (b1 := b1) (b2 := b2) (k1 := k1))
theorem c_M_isDigit {g : aG} {d : Nat} {μ : aM} {Q : aQ} (p1 : 0 ≤ (μ 31 0 11)) (p2 : (μ 31 0 10) ≤ 100) (h : Q (some (aI (bI (48 ≤ (if (μ 31 0 11) < (μ 31 0 10) then (μ 37 0 (μ 31 0 11)) else -1) ∧ (if (μ 31 0 11) < (μ 31 0 10) then (μ 37 0 (μ 31 0 11)) else -1) ≤ 57)))) μ) : Cal g (d + 2) m_M_isDigit [aR 31 0] μ Q := by
  refine C_ent rfl (Nat.le_of_ble_eq_true rfl) ?_
  refine E_M_isDigit (k1 := ?_)
  all_goals intros
  all_goals first | exact absurd ‹_› (by omega) | omega | exact qe h (by unfold bI; split <;> omega)
theorem E_M_place {g : aG} {d : Nat} {x1 : Int} {μ : aM} {Q : aQ} (k1 : (x1 = 100) → Q (some (aI 5)) μ) (k2 : (x1 = 101) → Q (some (aI (-1))) μ) (k3 : (x1 = 102) → Q (some (aI (-1))) μ) (k4 : (x1 = 103) → Q (some (aI (-1))) μ) (k5 : (x1 = 104) → Q (some (aI (-1))) μ) (k6 : (x1 = 105) → Q (some (aI (-1))) μ) (k7 : (x1 = 106) → Q (some (aI (-1))) μ) (k8 : (x1 = 107) → Q (some (aI 1)) μ) (k9 : (x1 = 108) → Q (some (aI (-1))) μ) (k10 : (x1 = 109) → Q (some (aI (-1))) μ) (k11 : (x1 = 110) → Q (some (aI (-1))) μ) (k12 : (x1 = 111) → Q (some (aI 4)) μ) (k13 : (x1 = 112) → Q (some (aI 0)) μ) (k14 : (x1 = 113) → Q (some (aI (-1))) μ) (k15 : (x1 = 114) → Q (some (aI (-1))) μ) (k16 : (x1 = 115) → Q (some (aI (-1))) μ) (k17 : (x1 = 116) → Q (some (aI (-1))) μ) (k18 : (x1 = 117) → Q (some (aI 3)) μ) (k19 : (x1 = 118) → Q (some (aI 2)) μ) (k20 : (x1 ≠ 100) → (x1 ≠ 101) → (x1 ≠ 102) → (x1 ≠ 103) → (x1 ≠ 104) → (x1 ≠ 105) → (x1 ≠ 106) → (x1 ≠ 107) → (x1 ≠ 108) → (x1 ≠ 109) → (x1 ≠ 110) → (x1 ≠ 111) → (x1 ≠ 112) → (x1 ≠ 113) → (x1 ≠ 114) → (x1 ≠ 115) → (x1 ≠ 116) → (x1 ≠ 117) → (x1 ≠ 118) → Q (some (aI (-1))) μ) : Rn g d m_M_place 0 [some (aR 31 0), some (aI x1)] [] μ Q :=
  (R_blk 2 (And.intro (fun c1 => (R_blk 2 (And.intro trivial (k1 c1)))) (fun c1 => (And.intro (fun c2 => (R_blk 2 (And.intro trivial (k2 c2)))) (fun c2 => (And.intro (fun c3 => (R_blk 2 (And.intro trivial (k3 c3)))) (fun c3 => (And.intro (fun c4 => (R_blk 2 (And.intro trivial (k4 c4)))) (fun c4 => (And.intro (fun c5 => (R_blk 2 (And.intro trivial (k5 c5)))) (fun c5 => (And.intro (fun c6 => (R_blk 2 (And.intro trivial (k6 c6)))) (fun c6 => (And.intro (fun c7 => (R_blk 2 (And.intro trivial (k7 c7)))) (fun c7 => (And.intro (fun c8 => (R_blk 2 (And.intro trivial (k8 c8)))) (fun c8 => (And.intro (fun c9 => (R_blk 2 (And.intro trivial (k9 c9)))) (fun c9 => (And.intro (fun c10 => (R_blk 2 (And.intro trivial (k10 c10)))) (fun c10 => (And.intro (fun c11 => (R_blk 2 (And.intro trivial (k11 c11)))) (fun c11 => (And.intro (fun c12 => (R_blk 2 (And.intro trivial (k12 c12)))) (fun c12 => (And.intro (fun c13 => (R_blk 2 (And.intro trivial (k13 c13)))) (fun c13 => (And.intro (fun c14 => (R_blk 2 (And.intro trivial (k14 c14)))) (fun c14 => (And.intro (fun c15 => (R_blk 2 (And.intro trivial (k15 c15)))) (fun c15 => (And.intro (fun c16 => (R_blk 2 (And.intro trivial (k16 c16)))) (fun c16 => (And.intro (fun c17 => (R_blk 2 (And.intro trivial (k17 c17)))) (fun c17 => (And.intro (fun c18 => (R_blk 2 (And.intro trivial (k18 c18)))) (fun c18 => (And.intro (fun c19 => (R_blk 2 (And.intro trivial (k19 c19)))) (fun c19 => (R_blk 2 (And.intro trivial (k20 c1 c2 c3 c4 c5 c6 c7 c8 c9 c10 c11 c12 c13 c14 c15 c16 c17 c18 c19))))))))))))))))))))))))))))))))))))))))))
theorem T_M_place {g : aG} {d : Nat} {x1 : Int} {μ : aM} {Q : aQ} (k1 : (x1 = 100) → Q (some (aI 5)) μ) (k2 : (x1 = 101) → Q (some (aI (-1))) μ) (k3 : (x1 = 102) → Q (some (aI (-1))) μ) (k4 : (x1 = 103) → Q (some (aI (-1))) μ) (k5 : (x1 = 104) → Q (some (aI (-1))) μ) (k6 : (x1 = 105) → Q (some (aI (-1))) μ) (k7 : (x1 = 106) → Q (some (aI (-1))) μ) (k8 : (x1 = 107) → Q (some (aI 1)) μ) (k9 : (x1 = 108) → Q (some (aI (-1))) μ) (k10 : (x1 = 109) → Q (some (aI (-1))) μ) (k11 : (x1 = 110) → Q (some (aI (-1))) μ) (k12 : (x1 = 111) → Q (some (aI 4)) μ) (k13 : (x1 = 112) → Q (some (aI 0)) μ) (k14 : (x1 = 113) → Q (some (aI (-1))) μ) (k15 : (x1 = 114) → Q (some (aI (-1))) μ) (k16 : (x1 = 115) → Q (some (aI (-1))) μ) (k17 : (x1 = 116) → Q (some (aI (-1))) μ) (k18 : (x1 = 117) → Q (some (aI 3)) μ) (k19 : (x1 = 118) → Q (some (aI 2)) μ) (k20 : (x1 ≠ 100) → (x1 ≠ 101) → (x1 ≠ 102) → (x1 ≠ 103) → (x1 ≠ 104) → (x1 ≠ 105) → (x1 ≠ 106) → (x1 ≠ 107) → (x1 ≠ 108) → (x1 ≠ 109) → (x1 ≠ 110) → (x1 ≠ 111) → (x1 ≠ 112) → (x1 ≠ 113) → (x1 ≠ 114) → (x1 ≠ 115) → (x1 ≠ 116) → (x1 ≠ 117) → (x1 ≠ 118) → Q (some (aI (-1))) μ) : Cal g (d + 1) m_M_place [aR 31 0, aI x1] μ Q :=
  C_ent rfl (Nat.le_of_ble_eq_true rfl) (E_M_place (k1 := k1) (k2 := k2) (k3 := k3) (k4 := k4) (k5 := k5) (k6 := k6) (k7 := k7) (k8 := k8) (k9 := k9) (k10 := k10) (k11 := k11) (k12 := k12) (k13 := k13) (k14 := k14) (k15 := k15) (k16 := k16) (k17 := k17) (k18 := k18) (k19 := k19) (k20 := k20))
theorem c_M_place {g : aG} {d : Nat} {x1 : Int} {μ : aM} {Q : aQ}  (h : Q (some (aI (placeF x1))) μ) : Cal g (d + 1) m_M_place [aR 31 0, aI x1] μ Q := by
  refine C_ent rfl (Nat.le_of_ble_eq_true rfl) ?_
  refine E_M_place (k1 := ?_) (k2 := ?_) (k3 := ?_) (k4 := ?_) (k5 := ?_) (k6 := ?_) (k7 := ?_) (k8 := ?_) (k9 := ?_) (k10 := ?_) (k11 := ?_) (k12 := ?_) (k13 := ?_) (k14 := ?_) (k15 := ?_) (k16 := ?_) (k17 := ?_) (k18 := ?_) (k19 := ?_) (k20 := ?_)
  all_goals intros
  all_goals first | exact absurd ‹_› (by omega) | omega | exact qe h (by unfold placeF; (repeat split) <;> omega)
theorem E_M_begin {g : aG} {d : Nat} {μ : aM} {Q : aQ} (b1 : ((0 : Int) ≤ μ 31 0 9) → -2147483648 ≤ 10 * (μ 31 0 9) ∧ 10 * (μ 31 0 9) < 2147483648 := by intros; omega) (k1 : ((0 : Int) ≤ μ 31 0 9) → Q (some (aI (10 * (μ 31 0 9)))) μ) (k2 : (μ 31 0 9 < 0) → Q (some (aI 0)) μ) : Rn g d m_M_begin 0 [some (aR 31 0)] [] μ Q :=
  (R_blk 3 (And.intro (fun c1 => (R_blk 4 (R_w (b1 c1) (R_blk 1 (And.intro trivial (k1 c1)))))) (fun c1 => (R_blk 3 (And.intro trivial (k2 c1))))))
theorem T_M_begin {g : aG} {d : Nat} {μ : aM} {Q : aQ} (b1 : ((0 : Int) ≤ μ 31 0 9) → -2147483648 ≤ 10 * (μ 31 0 9) ∧ 10 * (μ 31 0 9) < 2147483648 := by intros; omega) (k1 : ((0 : Int) ≤ μ 31 0 9) → Q (some (aI (10 * (μ 31 0 9)))) μ) (k2 : (μ 31 0 9 < 0) → Q (some (aI 0)) μ) : Cal g (d + 1) m_M_begin [aR 31 0] μ Q :=
  C_ent rfl (Nat.le_of_ble_eq_true rfl) (E_M_begin (b1 := b1) (k1 := k1) (k2 := k2))
theorem c_M_begin {g : aG} {d : Nat} {μ : aM} {Q : aQ} (p1 : (μ 31 0 9) ≤ 5) (h : Q (some (aI (if (μ 31 0 9) < 0 then 0 else 10 * (μ 31 0 9)))) μ) : Cal g (d + 1) m_M_begin [aR 31 0] μ Q := by
  refine C_ent rfl (Nat.le_of_ble_eq_true rfl) ?_
  refine E_M_begin (k1 := ?_) (k2 := ?_)
  all_goals intros
  all_goals first | exact absurd ‹_› (by omega) | omega | exact qe h (by split <;> omega)
theorem E_M_behind {g : aG} {d : Nat} {μ : aM} {Q : aQ} (b1 : ((0 : Int) ≤ μ 31 0 9) → -2147483648 ≤ 10 * (μ 31 0 9) ∧ 10 * (μ 31 0 9) < 2147483648 := by intros; omega) (b2 : ((0 : Int) ≤ μ 31 0 9) → 0 ≤ μ 31 0 9 ∧ μ 31 0 9 < 6 := by intros; omega) (b3 : ((0 : Int) ≤ μ 31 0 9) → -2147483648 ≤ (10 * (μ 31 0 9)) + (μ 38 0 (μ 31 0 9)) ∧ (10 * (μ 31 0 9)) + (μ 38 0 (μ 31 0 9)) < 2147483648 := by intros; omega) (k1 : ((0 : Int) ≤ μ 31 0 9) → Q (some (aI ((10 * (μ 31 0 9)) + (μ 38 0 (μ 31 0 9))))) μ) (k2 : (μ 31 0 9 < 0) → Q (some (aI 0)) μ) : Rn g d m_M_behind 0 [some (aR 31 0)] [] μ Q :=
  (R_blk 3 (And.intro (fun c1 => (R_blk 4 (R_w (b1 c1) (R_blk 6 (And.intro (b2 c1) (R_w (b3 c1) (R_blk 1 (And.intro trivial (k1 c1))))))))) (fun c1 => (R_blk 3 (And.intro trivial (k2 c1))))))
theorem T_M_behind {g : aG} {d : Nat} {μ : aM} {Q : aQ} (b1 : ((0 : Int) ≤ μ 31 0 9) → -2147483648 ≤ 10 * (μ 31 0 9) ∧ 10 * (μ 31 0 9) < 2147483648 := by intros; omega) (b2 : ((0 : Int) ≤ μ 31 0 9) → 0 ≤ μ 31 0 9 ∧ μ 31 0 9 < 6 := by intros; omega) (b3 : ((0 : Int) ≤ μ 31 0 9) → -2147483648 ≤ (10 * (μ 31 0 9)) + (μ 38 0 (μ 31 0 9)) ∧ (10 * (μ 31 0 9)) + (μ 38 0 (μ 31 0 9)) < 2147483648 := by intros; omega) (k1 : ((0 : Int) ≤ μ 31 0 9) → Q (some (aI ((10 * (μ 31 0 9)) + (μ 38 0 (μ 31 0 9))))) μ) (k2 : (μ 31 0 9 < 0) → Q (some (aI 0)) μ) : Cal g (d + 1) m_M_behind [aR 31 0] μ Q :=
  C_ent rfl (Nat.le_of_ble_eq_true rfl) (E_M_behind (b1 := b1) (b2 := b2) (b3 := b3) (k1 := k1) (k2 := k2))
theorem c_M_behind {g : aG} {d : Nat} {μ : aM} {Q : aQ} (p1 : (μ 31 0 9) ≤ 5) (p2 : (μ 31 0 9) < 0 ∨ 0 ≤ (μ 38 0 (μ 31 0 9)) ∧ (μ 38 0 (μ 31 0 9)) ≤ 10) (h : Q (some (aI (if (μ 31 0 9) < 0 then 0 else 10 * (μ 31 0 9) + (μ 38 0 (μ 31 0 9))))) μ) : Cal g (d + 1) m_M_behind [aR 31 0] μ Q := by
  refine C_ent rfl (Nat.le_of_ble_eq_true rfl) ?_
  refine E_M_behind (k1 := ?_) (k2 := ?_)
  all_goals intros
  all_goals first | exact absurd ‹_› (by omega) | omega | exact qe h (by split <;> omega)
theorem E_M_factOf {g : aG} {d : Nat} {x1 x2 : Int} {μ : aM} {Q : aQ} (k1 : (x1 = 0) → Q (some (aI x2)) μ) (b1 : (x1 = 1) → 0 ≤ x2 ∧ x2 < 6 := by intros; omega) (k2 : (x1 = 1) → Q (some (aI (μ 32 0 x2))) μ) (b2 : (x1 = 2) → 0 ≤ x2 ∧ x2 < 6 := by intros; omega) (k3 : (x1 = 2) → Q (some (aI (μ 33 0 x2))) μ) (b3 : (x1 = 3) → 0 ≤ x2 ∧ x2 < 6 := by intros; omega) (k4 : (x1 = 3) → Q (some (aI (i_div (μ 34 0 x2) 10))) μ) (b4 : (x1 = 4) → 0 ≤ x2 ∧ x2 < 6 := by intros; omega) (b5 : (x1 = 4) → -2147483647 ≤ (μ 35 0 x2) ∧ (μ 35 0 x2) ≤ 2147483647 := by intros; omega) (b6 : (x1 = 4) → (0 : Int) ≤ 99 ∧ (99 : Int) ≤ 2147483647 := by intros; omega) (k5 : (x1 = 4) → Q (some (aI (clp 99 (i_abs (μ 35 0 x2))))) μ) (k6 : (x1 ≠ 0) → (x1 ≠ 1) → (x1 ≠ 2) → (x1 ≠ 3) → (x1 ≠ 4) → Q (some (aI (i_rem (μ 31 0 1) 10))) μ) : Rn g (d + 1) m_M_factOf 0 [some (aR 31 0), some (aI x1), some (aI x2)] [] μ Q :=
  (R_blk 2 (And.intro (fun c1 => (R_blk 2 (And.intro trivial (k1 c1)))) (fun c1 => (And.intro (fun c2 => (R_blk 5 (And.intro (b1 c2) (And.intro trivial (k2 c2))))) (fun c2 => (And.intro (fun c3 => (R_blk 5 (And.intro (b2 c3) (And.intro trivial (k3 c3))))) (fun c3 => (And.intro (fun c4 => (R_blk 7 (And.intro (b3 c4) (And.intro (by decide) (And.intro trivial (k4 c4)))))) (fun c4 => (And.intro (fun c5 => (R_blk 7 (And.intro (b4 c5) (And.intro (Nat.le_of_ble_eq_true rfl) (c_M_far (b5 c5) (R_blk 2 (And.intro (Nat.le_of_ble_eq_true rfl) (c_M_held (b6 c5) (R_blk 1 (And.intro trivial (k5 c5))))))))))) (fun c5 => (R_blk 5 (And.intro (by decide) (And.intro trivial (k6 c1 c2 c3 c4 c5)))))))))))))))
theorem T_M_factOf {g : aG} {d : Nat} {x1 x2 : Int} {μ : aM} {Q : aQ} (k1 : (x1 = 0) → Q (some (aI x2)) μ) (b1 : (x1 = 1) → 0 ≤ x2 ∧ x2 < 6 := by intros; omega) (k2 : (x1 = 1) → Q (some (aI (μ 32 0 x2))) μ) (b2 : (x1 = 2) → 0 ≤ x2 ∧ x2 < 6 := by intros; omega) (k3 : (x1 = 2) → Q (some (aI (μ 33 0 x2))) μ) (b3 : (x1 = 3) → 0 ≤ x2 ∧ x2 < 6 := by intros; omega) (k4 : (x1 = 3) → Q (some (aI (i_div (μ 34 0 x2) 10))) μ) (b4 : (x1 = 4) → 0 ≤ x2 ∧ x2 < 6 := by intros; omega) (b5 : (x1 = 4) → -2147483647 ≤ (μ 35 0 x2) ∧ (μ 35 0 x2) ≤ 2147483647 := by intros; omega) (b6 : (x1 = 4) → (0 : Int) ≤ 99 ∧ (99 : Int) ≤ 2147483647 := by intros; omega) (k5 : (x1 = 4) → Q (some (aI (clp 99 (i_abs (μ 35 0 x2))))) μ) (k6 : (x1 ≠ 0) → (x1 ≠ 1) → (x1 ≠ 2) → (x1 ≠ 3) → (x1 ≠ 4) → Q (some (aI (i_rem (μ 31 0 1) 10))) μ) : Cal g (d + 2) m_M_factOf [aR 31 0, aI x1, aI x2] μ Q :=
  C_ent rfl (Nat.le_of_ble_eq_true rfl) (E_M_factOf (k1 := k1) (b1 := b1) (k2 := k2) (b2 := b2) (k3 := k3) (b3 := b3) (k4 := k4) (b4 := b4) (b5 := b5) (b6 := b6) (k5 := k5) (k6 := k6))
theorem c_M_factOf {g : aG} {d : Nat} {x1 x2 : Int} {μ : aM} {Q : aQ} (p1 : 0 ≤ x2 ∧ x2 < 6) (p2 : 0 ≤ (μ 34 0 x2)) (p3 : -999 ≤ (μ 35 0 x2) ∧ (μ 35 0 x2) ≤ 999) (p4 : 0 ≤ (μ 31 0 1)) (p5 : (μ 34 0 x2) ≤ 99) (p6 : (μ 31 0 1) ≤ 1000000) (h : Q (some (aI (factF x2 (μ 32 0 x2) (μ 33 0 x2) (μ 34 0 x2) (μ 35 0 x2) (μ 31 0 1) x1))) μ) : Cal g (d + 2) m_M_factOf [aR 31 0, aI x1, aI x2] μ Q := by
  refine C_ent rfl (Nat.le_of_ble_eq_true rfl) ?_
  refine E_M_factOf (k1 := ?_) (k2 := ?_) (k3 := ?_) (k4 := ?_) (k5 := ?_) (k6 := ?_)
  all_goals intros
  all_goals first | exact absurd ‹_› (by omega) | omega | exact qe h (by simp only [factF]; (try rw [i_div_nn (show 0 ≤ μ 34 0 x2 by assumption) (by omega) (by omega)]); (try rw [i_rem_nn (show 0 ≤ μ 31 0 1 by assumption) (by omega) (by omega)]); (repeat split) <;> omega)
theorem E_M_narrow {g : aG} {d : Nat} {x1 x2 : Int} {μ : aM} {Q : aQ} (k1 : (x1 ≠ 0) → (x1 ≠ 1) → (x1 ≠ 2) → (x1 ≠ 4) → Q (some (aL x2)) μ) (k2 : (x1 ≠ 0) → (x1 ≠ 1) → (x1 ≠ 2) → (x1 = 4) → (x2 = 0) → Q (some (aL 0)) μ) (k3 : (x1 ≠ 0) → (x1 ≠ 1) → (x1 ≠ 2) → (x1 = 4) → (x2 ≠ 0) → Q (some (aL 1)) μ) (k4 : (x1 ≠ 0) → (x1 ≠ 1) → (x1 = 2) → Q (some (aL (w32 x2))) μ) (k5 : (x1 ≠ 0) → (x1 = 1) → Q (some (aL (w16 (w32 x2)))) μ) (k6 : (x1 = 0) → Q (some (aL (w8 (w32 x2)))) μ) : Rn g d m_M_narrow 0 [some (aR 31 0), some (aI x1), some (aL x2), none] [] μ Q :=
  (R_blk 2 (And.intro (fun c1 => (R_blk 3 (And.intro (fun c2 => (R_blk 3 (And.intro (fun c3 => (R_blk 3 (And.intro (fun c4 => (R_blk 2 (k1 c1 c2 c3 c4))) (fun c4 => (R_blk 4 (And.intro (fun c5 => (R_blk 3 (k2 c1 c2 c3 c4 (lc_eq.mp c5)))) (fun c5 => (R_blk 3 (k3 c1 c2 c3 c4 (lc_ne.mp c5)))))))))) (fun c3 => (R_blk 5 (k4 c1 c2 c3)))))) (fun c2 => (R_blk 6 (k5 c1 c2)))))) (fun c1 => (R_blk 6 (k6 c1)))))
theorem T_M_narrow {g : aG} {d : Nat} {x1 x2 : Int} {μ : aM} {Q : aQ} (k1 : (x1 ≠ 0) → (x1 ≠ 1) → (x1 ≠ 2) → (x1 ≠ 4) → Q (some (aL x2)) μ) (k2 : (x1 ≠ 0) → (x1 ≠ 1) → (x1 ≠ 2) → (x1 = 4) → (x2 = 0) → Q (some (aL 0)) μ) (k3 : (x1 ≠ 0) → (x1 ≠ 1) → (x1 ≠ 2) → (x1 = 4) → (x2 ≠ 0) → Q (some (aL 1)) μ) (k4 : (x1 ≠ 0) → (x1 ≠ 1) → (x1 = 2) → Q (some (aL (w32 x2))) μ) (k5 : (x1 ≠ 0) → (x1 = 1) → Q (some (aL (w16 (w32 x2)))) μ) (k6 : (x1 = 0) → Q (some (aL (w8 (w32 x2)))) μ) : Cal g (d + 1) m_M_narrow [aR 31 0, aI x1, aL x2] μ Q :=
  C_ent rfl (Nat.le_of_ble_eq_true rfl) (E_M_narrow (k1 := k1) (k2 := k2) (k3 := k3) (k4 := k4) (k5 := k5) (k6 := k6))
theorem c_M_narrow {g : aG} {d : Nat} {x1 x2 : Int} {μ : aM} {Q : aQ}  (h : Q (some (aL (narF x1 x2))) μ) : Cal g (d + 1) m_M_narrow [aR 31 0, aI x1, aL x2] μ Q := by
  refine C_ent rfl (Nat.le_of_ble_eq_true rfl) ?_
  refine E_M_narrow (k1 := ?_) (k2 := ?_) (k3 := ?_) (k4 := ?_) (k5 := ?_) (k6 := ?_)
  all_goals intros
  all_goals first | exact absurd ‹_› (by omega) | omega | exact qeL h (by unfold narF bI; (repeat split) <;> omega)
theorem E_S_coder {g : aG} {d : Nat} {a0 : Int} {μ : aM} {Q : aQ} (b1 : ((1 : Int) = 0) → (-128 : Int) ≤ 1 ∧ (1 : Int) ≤ 127 := by intros; omega) (k1 : ((1 : Int) = 0) → Q (some (aI 1)) μ) (b2 : ((1 : Int) ≠ 0) → (-128 : Int) ≤ 0 ∧ (0 : Int) ≤ 127 := by intros; omega) (k2 : ((1 : Int) ≠ 0) → Q (some (aI 0)) μ) : Rn g d m_S_coder 0 [some (aR 101 a0)] [] μ Q :=
  (R_blk 2 (And.intro (fun c1 => (R_blk 2 (And.intro (b1 c1) (k1 c1)))) (fun c1 => (R_blk 4 (And.intro (b2 c1) (k2 c1))))))
theorem T_S_coder {g : aG} {d : Nat} {a0 : Int} {μ : aM} {Q : aQ} (b1 : ((1 : Int) = 0) → (-128 : Int) ≤ 1 ∧ (1 : Int) ≤ 127 := by intros; omega) (k1 : ((1 : Int) = 0) → Q (some (aI 1)) μ) (b2 : ((1 : Int) ≠ 0) → (-128 : Int) ≤ 0 ∧ (0 : Int) ≤ 127 := by intros; omega) (k2 : ((1 : Int) ≠ 0) → Q (some (aI 0)) μ) : Cal g (d + 1) m_S_coder [aR 101 a0] μ Q :=
  C_ent rfl (Nat.le_of_ble_eq_true rfl) (E_S_coder (b1 := b1) (k1 := k1) (b2 := b2) (k2 := k2))
theorem c_S_coder {g : aG} {d : Nat} {a0 : Int} {μ : aM} {Q : aQ}  (h : Q (some (aI 0)) μ) : Cal g (d + 1) m_S_coder [aR 101 a0] μ Q := by
  refine C_ent rfl (Nat.le_of_ble_eq_true rfl) ?_
  refine E_S_coder (k1 := ?_) (k2 := ?_)
  all_goals intros
  all_goals first | exact absurd ‹_› (by omega) | omega | exact qe h (by first | rfl | omega)
theorem E_S_isLatin1 {g : aG} {d : Nat} {a0 : Int} {μ : aM} {Q : aQ} (k1 : ((1 : Int) = 0) → Q (some (aI 0)) μ) (k2 : ((1 : Int) ≠ 0) → ((0 : Int) ≠ 0) → Q (some (aI 0)) μ) (k3 : ((1 : Int) ≠ 0) → ((0 : Int) = 0) → Q (some (aI 1)) μ) : Rn g d m_S_isLatin1 0 [some (aR 101 a0)] [] μ Q :=
  (R_blk 2 (And.intro (fun c1 => (R_blk 2 (And.intro (Or.inl rfl) (k1 c1)))) (fun c1 => (R_blk 3 (And.intro (fun c2 => (R_blk 2 (And.intro (Or.inl rfl) (k2 c1 c2)))) (fun c2 => (R_blk 3 (And.intro (Or.inr rfl) (k3 c1 c2)))))))))
theorem T_S_isLatin1 {g : aG} {d : Nat} {a0 : Int} {μ : aM} {Q : aQ} (k1 : ((1 : Int) = 0) → Q (some (aI 0)) μ) (k2 : ((1 : Int) ≠ 0) → ((0 : Int) ≠ 0) → Q (some (aI 0)) μ) (k3 : ((1 : Int) ≠ 0) → ((0 : Int) = 0) → Q (some (aI 1)) μ) : Cal g (d + 1) m_S_isLatin1 [aR 101 a0] μ Q :=
  C_ent rfl (Nat.le_of_ble_eq_true rfl) (E_S_isLatin1 (k1 := k1) (k2 := k2) (k3 := k3))
theorem c_S_isLatin1 {g : aG} {d : Nat} {a0 : Int} {μ : aM} {Q : aQ}  (h : Q (some (aI 1)) μ) : Cal g (d + 1) m_S_isLatin1 [aR 101 a0] μ Q := by
  refine C_ent rfl (Nat.le_of_ble_eq_true rfl) ?_
  refine E_S_isLatin1 (k1 := ?_) (k2 := ?_) (k3 := ?_)
  all_goals intros
  all_goals first | exact absurd ‹_› (by omega) | omega | exact qe h (by first | rfl | omega)
theorem E_S_length {g : aG} {d : Nat} {a0 : Int} {μ : aM} {Q : aQ} (k1 : Q (some (aI (b_shr (flen g 102 a0) 0))) μ) : Rn g (d + 1) m_S_length 0 [some (aR 101 a0)] [] μ Q :=
  (R_blk 5 (And.intro (Nat.le_of_ble_eq_true rfl) (c_S_coder (R_blk 2 (And.intro trivial k1)))))
theorem T_S_length {g : aG} {d : Nat} {a0 : Int} {μ : aM} {Q : aQ} (k1 : Q (some (aI (b_shr (flen g 102 a0) 0))) μ) : Cal g (d + 2) m_S_length [aR 101 a0] μ Q :=
  C_ent rfl (Nat.le_of_ble_eq_true rfl) (E_S_length (k1 := k1))
theorem c_S_length {g : aG} {d : Nat} {a0 : Int} {μ : aM} {Q : aQ} (p1 : 0 ≤ a0 ∧ a0 < 6) (h : Q (some (aI (flen g 102 a0))) μ) : Cal g (d + 2) m_S_length [aR 101 a0] μ Q := by
  refine C_ent rfl (Nat.le_of_ble_eq_true rfl) ?_
  refine E_S_length (k1 := ?_)
  all_goals intros
  all_goals first | exact absurd ‹_› (by omega) | omega | exact qe h (by exact (b_shr_0 (flen_str p1)).symm)
theorem E_SP_checkIndex {g : aG} {d : Nat} {x0 x1 : Int} {μ : aM} {Q : aQ} (k1 : (x0 < 0) → False) (k2 : ((0 : Int) ≤ x0) → (x0 < x1) → Q (some (aI x0)) μ) (k3 : ((0 : Int) ≤ x0) → (x1 ≤ x0) → False) : Rn g d m_SP_checkIndex 0 [some (aI x0), some (aI x1), some (aO 0)] [] μ Q :=
  (R_blk 2 (And.intro (fun c1 => (R_blk 4 (k1 c1))) (fun c1 => (R_blk 3 (And.intro (fun c2 => (R_blk 2 (And.intro trivial (k2 c1 c2)))) (fun c2 => (R_blk 4 (k3 c1 c2))))))))
theorem T_SP_checkIndex {g : aG} {d : Nat} {x0 x1 : Int} {μ : aM} {Q : aQ} (k1 : (x0 < 0) → False) (k2 : ((0 : Int) ≤ x0) → (x0 < x1) → Q (some (aI x0)) μ) (k3 : ((0 : Int) ≤ x0) → (x1 ≤ x0) → False) : Cal g (d + 1) m_SP_checkIndex [aI x0, aI x1, aO 0] μ Q :=
  C_ent rfl (Nat.le_of_ble_eq_true rfl) (E_SP_checkIndex (k1 := k1) (k2 := k2) (k3 := k3))
theorem c_SP_checkIndex {g : aG} {d : Nat} {x0 x1 : Int} {μ : aM} {Q : aQ} (p1 : 0 ≤ x0 ∧ x0 < x1) (h : Q (some (aI x0)) μ) : Cal g (d + 1) m_SP_checkIndex [aI x0, aI x1, aO 0] μ Q := by
  refine C_ent rfl (Nat.le_of_ble_eq_true rfl) ?_
  refine E_SP_checkIndex (k1 := ?_) (k2 := ?_) (k3 := ?_)
  all_goals intros
  all_goals first | exact absurd ‹_› (by omega) | omega | exact qe h (by first | rfl | omega)
theorem E_S_checkIndex {g : aG} {d : Nat} {x0 x1 : Int} {μ : aM} {Q : aQ} (b1 : 0 ≤ x0 ∧ x0 < x1 := by intros; omega) (k1 : Q none μ) : Rn g (d + 1) m_S_checkIndex 0 [some (aI x0), some (aI x1)] [] μ Q :=
  (R_blk 4 (And.intro (Nat.le_of_ble_eq_true rfl) (c_SP_checkIndex b1 (R_blk 2 k1))))
theorem T_S_checkIndex {g : aG} {d : Nat} {x0 x1 : Int} {μ : aM} {Q : aQ} (b1 : 0 ≤ x0 ∧ x0 < x1 := by intros; omega) (k1 : Q none μ) : Cal g (d + 2) m_S_checkIndex [aI x0, aI x1] μ Q :=
  C_ent rfl (Nat.le_of_ble_eq_true rfl) (E_S_checkIndex (b1 := b1) (k1 := k1))
theorem c_S_checkIndex {g : aG} {d : Nat} {x0 x1 : Int} {μ : aM} {Q : aQ} (p1 : 0 ≤ x0 ∧ x0 < x1) (h : Q none μ) : Cal g (d + 2) m_S_checkIndex [aI x0, aI x1] μ Q := by
  refine C_ent rfl (Nat.le_of_ble_eq_true rfl) ?_
  refine E_S_checkIndex (k1 := ?_)
  all_goals intros
  all_goals first | omega | exact h
theorem E_SL_canEncode {g : aG} {d : Nat} {x0 : Int} {μ : aM} {Q : aQ} (k1 : (x0 < 0) → Q (some (aI 0)) μ) (k2 : ((0 : Int) ≤ x0) → ((255 : Int) < x0) → Q (some (aI 0)) μ) (k3 : ((0 : Int) ≤ x0) → (x0 ≤ 255) → Q (some (aI 1)) μ) : Rn g d m_SL_canEncode 0 [some (aI x0)] [] μ Q :=
  (R_blk 2 (And.intro (fun c1 => (R_blk 2 (And.intro (Or.inl rfl) (k1 c1)))) (fun c1 => (R_blk 3 (And.intro (fun c2 => (R_blk 2 (And.intro (Or.inl rfl) (k2 c1 c2)))) (fun c2 => (R_blk 3 (And.intro (Or.inr rfl) (k3 c1 c2)))))))))
theorem T_SL_canEncode {g : aG} {d : Nat} {x0 : Int} {μ : aM} {Q : aQ} (k1 : (x0 < 0) → Q (some (aI 0)) μ) (k2 : ((0 : Int) ≤ x0) → ((255 : Int) < x0) → Q (some (aI 0)) μ) (k3 : ((0 : Int) ≤ x0) → (x0 ≤ 255) → Q (some (aI 1)) μ) : Cal g (d + 1) m_SL_canEncode [aI x0] μ Q :=
  C_ent rfl (Nat.le_of_ble_eq_true rfl) (E_SL_canEncode (k1 := k1) (k2 := k2) (k3 := k3))
theorem c_SL_canEncode {g : aG} {d : Nat} {x0 : Int} {μ : aM} {Q : aQ}  (h : Q (some (aI (bI (0 ≤ x0 ∧ x0 ≤ 255)))) μ) : Cal g (d + 1) m_SL_canEncode [aI x0] μ Q := by
  refine C_ent rfl (Nat.le_of_ble_eq_true rfl) ?_
  refine E_SL_canEncode (k1 := ?_) (k2 := ?_) (k3 := ?_)
  all_goals intros
  all_goals first | exact absurd ‹_› (by omega) | omega | exact qe h (by unfold bI; split <;> omega)
theorem E_SL_charAt {g : aG} {d : Nat} {a0 x1 : Int} {μ : aM} {Q : aQ} (b1 : 0 ≤ x1 ∧ x1 < (flen g 102 a0) := by intros; omega) (b2 : 0 ≤ x1 ∧ x1 < flen g 102 a0 := by intros; omega) (b3 : 0 ≤ (b_and (fget g 102 a0 x1) 255) % 65536 ∧ (b_and (fget g 102 a0 x1) 255) % 65536 ≤ 65535 := by intros; omega) (k1 : Q (some (aI ((b_and (fget g 102 a0 x1) 255) % 65536))) μ) : Rn g (d + 2) m_SL_charAt 0 [some (aR 102 a0), some (aI x1)] [] μ Q :=
  (R_blk 4 (And.intro (Nat.le_of_ble_eq_true rfl) (c_S_checkIndex b1 (R_blk 7 (And.intro b2 (And.intro b3 k1))))))
theorem T_SL_charAt {g : aG} {d : Nat} {a0 x1 : Int} {μ : aM} {Q : aQ} (b1 : 0 ≤ x1 ∧ x1 < (flen g 102 a0) := by intros; omega) (b2 : 0 ≤ x1 ∧ x1 < flen g 102 a0 := by intros; omega) (b3 : 0 ≤ (b_and (fget g 102 a0 x1) 255) % 65536 ∧ (b_and (fget g 102 a0 x1) 255) % 65536 ≤ 65535 := by intros; omega) (k1 : Q (some (aI ((b_and (fget g 102 a0 x1) 255) % 65536))) μ) : Cal g (d + 3) m_SL_charAt [aR 102 a0, aI x1] μ Q :=
  C_ent rfl (Nat.le_of_ble_eq_true rfl) (E_SL_charAt (b1 := b1) (b2 := b2) (b3 := b3) (k1 := k1))
theorem c_SL_charAt {g : aG} {d : Nat} {a0 x1 : Int} {μ : aM} {Q : aQ} (p1 : 0 ≤ x1 ∧ x1 < flen g 102 a0) (p2 : 0 ≤ a0 ∧ a0 < 6) (h : Q (some (aI (fget g 102 a0 x1))) μ) : Cal g (d + 3) m_SL_charAt [aR 102 a0, aI x1] μ Q := by
  refine C_ent rfl (Nat.le_of_ble_eq_true rfl) ?_
  refine E_SL_charAt (k1 := ?_)
  all_goals intros
  all_goals first | exact absurd ‹_› (by omega) | omega | exact qe h (by exact chr_id.symm)
theorem E_S_charAt {g : aG} {d : Nat} {a0 x1 : Int} {μ : aM} {Q : aQ} (k1 : ((1 : Int) = 0) → False) (b1 : ((1 : Int) ≠ 0) → 0 ≤ x1 ∧ x1 < flen g 102 a0 := by intros; omega) (b2 : ((1 : Int) ≠ 0) → 0 ≤ a0 ∧ a0 < 6 := by intros; omega) (b3 : ((1 : Int) ≠ 0) → 0 ≤ fget g 102 a0 x1 ∧ fget g 102 a0 x1 ≤ 65535 := by intros; omega) (k2 : ((1 : Int) ≠ 0) → Q (some (aI (fget g 102 a0 x1))) μ) : Rn g (d + 3) m_S_charAt 0 [some (aR 101 a0), some (aI x1)] [] μ Q :=
  (R_blk 2 (And.intro (Nat.le_of_ble_eq_true rfl) (c_S_isLatin1 (R_blk 1 (And.intro (fun c1 => (R_blk 4 (k1 c1))) (fun c1 => (R_blk 4 (And.intro (Nat.le_of_ble_eq_true rfl) (c_SL_charAt (b1 c1) (b2 c1) (R_blk 1 (And.intro (b3 c1) (k2 c1))))))))))))
theorem T_S_charAt {g : aG} {d : Nat} {a0 x1 : Int} {μ : aM} {Q : aQ} (k1 : ((1 : Int) = 0) → False) (b1 : ((1 : Int) ≠ 0) → 0 ≤ x1 ∧ x1 < flen g 102 a0 := by intros; omega) (b2 : ((1 : Int) ≠ 0) → 0 ≤ a0 ∧ a0 < 6 := by intros; omega) (b3 : ((1 : Int) ≠ 0) → 0 ≤ fget g 102 a0 x1 ∧ fget g 102 a0 x1 ≤ 65535 := by intros; omega) (k2 : ((1 : Int) ≠ 0) → Q (some (aI (fget g 102 a0 x1))) μ) : Cal g (d + 4) m_S_charAt [aR 101 a0, aI x1] μ Q :=
  C_ent rfl (Nat.le_of_ble_eq_true rfl) (E_S_charAt (k1 := k1) (b1 := b1) (b2 := b2) (b3 := b3) (k2 := k2))
theorem c_S_charAt {g : aG} {d : Nat} {a0 x1 : Int} {μ : aM} {Q : aQ} (p1 : 0 ≤ x1 ∧ x1 < flen g 102 a0) (p2 : 0 ≤ a0 ∧ a0 < 6) (h : Q (some (aI (fget g 102 a0 x1))) μ) : Cal g (d + 4) m_S_charAt [aR 101 a0, aI x1] μ Q := by
  refine C_ent rfl (Nat.le_of_ble_eq_true rfl) ?_
  refine E_S_charAt (k1 := ?_) (k2 := ?_) (b3 := fun _ => ⟨(chr_rng _ _ _).1, by have := (chr_rng g a0 x1).2; omega⟩)
  all_goals intros
  all_goals first | exact absurd ‹_› (by omega) | omega | exact qe h (by first | rfl | omega)
