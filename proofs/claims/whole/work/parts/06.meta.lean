/-! Of the steps: each goes to just one place. -/
def One (F : aK → aQ → Prop) : Prop := ∀ K R, F K R → (∃ a b c d, K a b c d ∧ ∀ K2 R2, K2 a b c d → F K2 R2) ∨ (∃ rv μ', R rv μ' ∧ ∀ K2 R2, R2 rv μ' → F K2 R2)
theorem one_K {a : Nat} {b : aLs} {c : List aV} {d : aM} : One (fun K _ => K a b c d) := fun _ _ h => Or.inl ⟨a, b, c, d, h, fun _ _ z => z⟩
theorem one_R {rv : Option aV} {d : aM} : One (fun _ R => R rv d) := fun _ _ h => Or.inr ⟨rv, d, h, fun _ _ z => z⟩
theorem one_F : One (fun _ _ => False) := fun _ _ h => h.elim
theorem one_and {P : Prop} {F : aK → aQ → Prop} (h : One F) : One (fun K R => P ∧ F K R) := by
  intro K R hh
  rcases h K R hh.2 with ⟨a, b, c, d, h1, h2⟩ | ⟨rv, μ', h1, h2⟩
  · exact Or.inl ⟨a, b, c, d, h1, fun K2 R2 z => ⟨hh.1, h2 K2 R2 z⟩⟩
  · exact Or.inr ⟨rv, μ', h1, fun K2 R2 z => ⟨hh.1, h2 K2 R2 z⟩⟩
theorem one_br {P N : Prop} {F G : aK → aQ → Prop} (hd : P ∨ N) (hx : P → N → False) (hF : One F) (hG : One G) : One (fun K R => (P → F K R) ∧ (N → G K R)) := by
  intro K R hh
  rcases hd with p | q
  · rcases hF K R (hh.1 p) with ⟨a, b, c, d, h1, h2⟩ | ⟨rv, μ', h1, h2⟩
    · exact Or.inl ⟨a, b, c, d, h1, fun K2 R2 z => ⟨fun _ => h2 K2 R2 z, fun q => (hx p q).elim⟩⟩
    · exact Or.inr ⟨rv, μ', h1, fun K2 R2 z => ⟨fun _ => h2 K2 R2 z, fun q => (hx p q).elim⟩⟩
  · rcases hG K R (hh.2 q) with ⟨a, b, c, d, h1, h2⟩ | ⟨rv, μ', h1, h2⟩
    · exact Or.inl ⟨a, b, c, d, h1, fun K2 R2 z => ⟨fun p => (hx p q).elim, fun _ => h2 K2 R2 z⟩⟩
    · exact Or.inr ⟨rv, μ', h1, fun K2 R2 z => ⟨fun p => (hx p q).elim, fun _ => h2 K2 R2 z⟩⟩
theorem one_bif {b : Bool} {F G : aK → aQ → Prop} (hF : One F) (hG : One G) : One (fun K R => bif b then F K R else G K R) := by
  cases b
  · exact hG
  · exact hF
theorem cTF_or (c : Jvm.ClassFile.Cond) (x y : Int) : cT c x y ∨ cF c x y := by cases c <;> simp only [cT, cF] <;> omega
theorem cTF_no (c : Jvm.ClassFile.Cond) (x y : Int) : cT c x y → cF c x y → False := by cases c <;> simp only [cT, cF] <;> omega
section
variable {st : List aV} {K : aK} {R : aQ}
theorem one_op1 {f : Int → List aV → aK → aQ → Prop} (h : ∀ x t, One (f x t)) : One (fun K R => op1 st (fun x t => f x t K R)) := by
  unfold op1; split
  · exact h _ _
  · exact one_F
theorem one_op2 {f : Int → Int → List aV → aK → aQ → Prop} (h : ∀ x y t, One (f x y t)) : One (fun K R => op2 st (fun x y t => f x y t K R)) := by
  unfold op2; split
  · exact h _ _ _
  · exact one_F
theorem one_opL2 {f : Int → Int → List aV → aK → aQ → Prop} (h : ∀ x y t, One (f x y t)) : One (fun K R => opL2 st (fun x y t => f x y t K R)) := by
  unfold opL2; split
  · exact h _ _ _
  · exact one_F
theorem one_opLI {f : Int → Int → List aV → aK → aQ → Prop} (h : ∀ x y t, One (f x y t)) : One (fun K R => opLI st (fun x y t => f x y t K R)) := by
  unfold opLI; split
  · exact h _ _ _
  · exact one_F
theorem one_opL1 {f : Int → List aV → aK → aQ → Prop} (h : ∀ x t, One (f x t)) : One (fun K R => opL1 st (fun x t => f x t K R)) := by
  unfold opL1; split
  · exact h _ _
  · exact one_F
theorem one_opQ {f : (Nat × Int) ⊕ Nat → List aV → aK → aQ → Prop} (h : ∀ x t, One (f x t)) : One (fun K R => opQ st (fun x t => f x t K R)) := by
  unfold opQ; split
  · exact h _ _
  · exact one_F
theorem one_opR {f : Nat → Int → List aV → aK → aQ → Prop} (h : ∀ k a t, One (f k a t)) : One (fun K R => opR st (fun k a t => f k a t K R)) := by
  unfold opR; split
  · exact h _ _ _
  · exact one_F
theorem one_opIR {f : Nat → Int → Int → List aV → aK → aQ → Prop} (h : ∀ k a i t, One (f k a i t)) : One (fun K R => opIR st (fun k a i t => f k a i t K R)) := by
  unfold opIR; split
  · exact h _ _ _ _
  · exact one_F
theorem one_opIRp {f : Nat → Int → Int → List aV → aK → aQ → Prop} (h : ∀ k a i t, One (f k a i t)) : One (fun K R => opIRp st (fun k a i t => f k a i t K R)) := by
  unfold opIRp; split
  · exact h _ _ _ _
  · exact one_F
theorem one_opIIR {f : Nat → Int → Int → Int → List aV → aK → aQ → Prop} (h : ∀ k a i x t, One (f k a i x t)) : One (fun K R => opIIR st (fun k a i x t => f k a i x t K R)) := by
  unfold opIIR; split
  · exact h _ _ _ _ _
  · exact one_F
theorem one_opLIR {f : Nat → Int → Int → Int → List aV → aK → aQ → Prop} (h : ∀ k a i x t, One (f k a i x t)) : One (fun K R => opLIR st (fun k a i x t => f k a i x t K R)) := by
  unfold opLIR; split
  · exact h _ _ _ _ _
  · exact one_F
theorem one_ldI {o : Option aV} {f : Int → aK → aQ → Prop} (h : ∀ x, One (f x)) : One (fun K R => ldI o (fun x => f x K R)) := by
  unfold ldI; split
  · exact h _
  · exact one_F
theorem one_ldL {o : Option aV} {f : Int → aK → aQ → Prop} (h : ∀ x, One (f x)) : One (fun K R => ldL o (fun x => f x K R)) := by
  unfold ldL; split
  · exact h _
  · exact one_F
theorem one_ldR {o : Option aV} {f : (Nat × Int) ⊕ Nat → aK → aQ → Prop} (h : ∀ x, One (f x)) : One (fun K R => ldR o (fun x => f x K R)) := by
  unfold ldR; split
  · exact h _
  · exact one_F
theorem one_ests {tc k : Nat} {a i : Int} {F : aK → aQ → Prop} (h : One F) : One (fun K R => ests tc k a i (F K R)) := by
  unfold ests; split
  · exact one_bif (one_and h) one_F
  · exact one_F
theorem one_elds {tc : Nat} {g : aG} {k : Nat} {a i : Int} {f : (aM → Int) → aK → aQ → Prop} (h : ∀ v, One (f v)) : One (fun K R => elds tc g k a i (fun v => f v K R)) := by
  unfold elds; refine one_bif ?_ (one_bif (one_and (h _)) one_F)
  split
  · exact one_bif (one_and (h _)) one_F
  · exact one_F
theorem one_swT {x : Int} {f : Int → aK → aQ → Prop} {D : aK → aQ → Prop} (h : ∀ o, One (f o)) (hD : One D) : ∀ (l : List Int) (lo : Int), One (fun K R => swT x (fun o => f o K R) (D K R) lo l) := by
  intro l
  induction l with
  | nil => intro lo; exact hD
  | cons o l ih => intro lo; exact one_br (Decidable.em (x = lo)) (fun p q => q p) (h o) (ih (lo + 1))
theorem one_swL {x : Int} {f : Int → aK → aQ → Prop} {D : aK → aQ → Prop} (h : ∀ o, One (f o)) (hD : One D) : ∀ (l : List (Int × Int)), One (fun K R => swL x (fun o => f o K R) (D K R) l) := by
  intro l
  induction l with
  | nil => exact hD
  | cons o l ih => exact one_br (Decidable.em (x = o.1)) (fun p q => q p) (h o.2) ih
end
def Cone (C : aCal) : Prop := ∀ mid as μ Q, C mid as μ Q → ∃ rv μ', Q rv μ' ∧ ∀ Q2 : aQ, Q2 rv μ' → C mid as μ Q2
theorem one_C {C : aCal} (hC : Cone C) {mid : Nat} {as : List aV} {μ : aM} {f : Option aV → aM → aK → aQ → Prop} (h : ∀ rv μ', One (f rv μ')) : One (fun K R => C mid as μ (fun rv μ' => f rv μ' K R)) := by
  intro K R hh
  obtain ⟨rv, μ', h1, h2⟩ := hC _ _ _ _ hh
  rcases h rv μ' K R h1 with ⟨a, b, c, d, g1, g2⟩ | ⟨rv', μ'', g1, g2⟩
  · exact Or.inl ⟨a, b, c, d, g1, fun K2 R2 z => h2 _ (g2 K2 R2 z)⟩
  · exact Or.inr ⟨rv', μ'', g1, fun K2 R2 z => h2 _ (g2 K2 R2 z)⟩
theorem one_prims {mid : Nat} {st : List aV} {μ : aM} {f : List aV → aM → aK → aQ → Prop} (h : ∀ t μ', One (f t μ')) : One (fun K R => prims mid st μ (fun t μ' => f t μ' K R)) := by
  unfold prims
  split
  · exact one_op2 fun _ _ _ => one_and (h _ _)
  · exact one_op2 fun _ _ _ => one_and (h _ _)
  · exact one_op1 fun _ _ => one_and (h _ _)
  · split
    · split
      · exact one_bif (one_and (one_and (h _ _))) one_F
      · exact one_F
    · exact one_F
  · exact one_F
set_option maxHeartbeats 4000000 in
theorem wp1_one {g : aG} {C : aCal} (hC : Cone C) {rt : Nat} {i : Instr} {n : Nat} {r : aRs} {pc : Nat} {ls : aLs} {st : List aV} {μ : aM} : One (fun K R => wp1 g C rt i n r pc ls st μ K R) := by
  cases i
  all_goals simp only [wp1]
  all_goals first
    | exact one_F
    | exact one_K
    | exact one_op1 fun _ _ => one_K
    | exact one_op2 fun _ _ _ => one_K
    | exact one_op2 fun _ _ _ => one_and one_K
    | exact one_opL2 fun _ _ _ => one_K
    | exact one_opLI fun _ _ _ => one_K
    | exact one_opL1 fun _ _ => one_K
    | exact one_opQ fun _ _ => one_K
    | exact one_ldI fun _ => one_K
    | exact one_ldL fun _ => one_K
    | exact one_ldR fun _ => one_K
    | exact one_bif one_K one_K
    | exact one_op1 fun _ _ => one_br (cTF_or _ _ _) (cTF_no _ _ _) one_K one_K
    | exact one_op2 fun _ _ _ => one_br (cTF_or _ _ _) (cTF_no _ _ _) one_K one_K
    | exact one_op1 fun _ _ => one_swT (fun _ => one_K) one_K _ _
    | exact one_op1 fun _ _ => one_swL (fun _ => one_K) one_K _
    | exact one_opIR fun _ _ _ _ => one_elds fun _ => one_K
    | exact one_opIR fun _ _ _ _ => one_bif (one_elds fun _ => one_K) (one_elds fun _ => one_K)
    | exact one_opIR fun _ _ _ _ => one_ests one_K
    | exact one_opIIR fun _ _ _ _ _ => one_ests one_K
    | exact one_opIIR fun _ _ _ _ _ => one_bif (one_ests (one_and one_K)) (one_ests one_K)
    | exact one_opLIR fun _ _ _ _ _ => one_ests one_K
    | exact one_opR fun _ _ _ => one_bif one_F (one_bif one_F one_K)
    | skip
  case dup => split <;> first | exact one_K | exact one_F
  case aaload => refine one_opIR fun _ _ _ _ => ?_; split <;> first | exact one_and one_K | exact one_F
  case getfield =>
    refine one_opR fun _ _ _ => one_bif (one_bif one_K one_F) (one_bif (one_bif one_K one_F) (one_bif ?_ one_F))
    split <;> first | exact one_K | exact one_F
  case putfield =>
    refine one_opIRp fun _ _ _ _ => one_bif ?_ one_F
    split <;> first | exact one_K | exact one_F | exact one_and one_K
  case getstatic => split <;> first | exact one_K | exact one_F
  case invokevirtual =>
    split
    · exact one_bif (one_and (one_C hC fun _ _ => one_K)) one_F
    · exact one_F
  case invokestatic =>
    refine one_bif ?_ (one_prims fun _ _ => one_K)
    split
    · exact one_and (one_C hC fun _ _ => one_K)
    · exact one_F
  case ireturn => split <;> first | exact one_R | exact one_F | exact one_and one_R
  case lreturn => split <;> first | exact one_R | exact one_F
  case areturn => split <;> first | exact one_R | exact one_F
  case return_ => split <;> first | exact one_R | exact one_F
theorem wp1_mono {g : aG} {C : aCal} (hC : Cone C) {rt : Nat} {i : Instr} {n : Nat} {r : aRs} {pc : Nat} {ls : aLs} {st : List aV} {μ : aM} {K K2 : aK} {R R2 : aQ} (h : wp1 g C rt i n r pc ls st μ K R) (hK : ∀ a b c d, K a b c d → K2 a b c d) (hR : ∀ rv μ', R rv μ' → R2 rv μ') : wp1 g C rt i n r pc ls st μ K2 R2 := by
  rcases wp1_one hC K R h with ⟨a, b, c, d, h1, h2⟩ | ⟨rv, μ', h1, h2⟩
  · exact h2 _ _ (hK _ _ _ _ h1)
  · exact h2 _ _ (hR _ _ h1)
