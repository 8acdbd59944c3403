/-! The machine's own steps follow the abstract ones. -/
def rmD (d : Nat) : Room := { frames := d, cells := 0, slots := 0, locals := 60 * d }
def wsM (q : aMT) : List Jvm.Cond := Jvm.Cond.code q.2.1 q.2.2.1 q.2.2.2.1 q.2.2.2.2.1 :: TW
def PreU (g : aG) (D : va_G) (cA : Nat → ClassId) (ad : Nat → Int → Nat) (od : Nat → Value) (μ : aM) (sz : Nat) : State → Prop := fun U => U.heap.size = sz ∧ va_P D vwCl (wsOf cA ad μ) U.heap ∧ va_K D vwCl (tysOf cA) U ∧ va_D (fun _ => True) (wsOf cA ad μ) ∧ FOR g ad od (va_A (wsOf cA ad μ) sz) U U.heap
def QQ (D : va_G) (cA : Nat → ClassId) (ad : Nat → Int → Nat) (od : Nat → Value) (A : Nat → Prop) (rv : Option aV) (μ' : aM) : Array Value → State → Outcome → State → Prop := fun _ st oc t => (oc = .returned (rv.map (conc ad od)) ∧ va_P D vwCl (wsOf cA ad μ') t.heap ∧ wfM μ' ∧ wfO rv) ∧ va_F A st t
def MetS (l : Launch) (g : aG) (d mid : Nat) (as : List aV) (μ : aM) (rv : Option aV) (μ' : aM) : Prop := ∀ q, nthL MT mid = some q → mid ≠ m_L_law → wfM μ → wfS as → ∀ (D : va_G) (cA : Nat → ClassId) (ad : Nat → Int → Nat) (od : Nat → Value) (sz : Nat), (∀ j, od j = .null ∨ ∃ a, od j = .ref a) →
  Met l q.2.1 (wsM q) (rmD d) (va_Pc (as.map (conc ad od)) (PreU g D cA ad od μ sz)) (QQ D cA ad od (va_A (wsOf cA ad μ) sz) rv μ') 0 0 (va_A (wsOf cA ad μ) sz)
def CalS (l : Launch) (g : aG) (d : Nat) : Prop := ∀ (mid : Nat) (as : List aV) (μ : aM) (rv : Option aV) (μ' : aM), Cal g d mid as μ (fun r1 m1 => r1 = rv ∧ m1 = μ') → MetS l g d mid as μ rv μ'
def Ctx (p : Program) (R : Room) (s : State) (m : MethodId) (args : Array Value) (c : Code) (cells slots : Nat) (g : aG) (d mid : Nat) (D : va_G) (cA : Nat → ClassId) (ad : Nat → Int → Nat) (od : Nat → Value) (A : Nat → Prop) (q : aMT) : Prop :=
  nthL MT mid = some q ∧ p.tables.exec = Jvm.exec ∧ c.code = q.2.2.1 ∧ c.maxLocals = q.2.2.2.1 ∧ s.vm.findClass q.1 = some m.cls ∧ (∀ w ∈ TW, w.before args s = true) ∧ va_K D vwCl (tysOf cA) s ∧ FOR g ad od A s s.heap ∧ (∀ μ, va_D A (wsOf cA ad μ)) ∧ (∀ x, s.heap.size ≤ x → A x) ∧ (∀ j, od j = .null ∨ ∃ a, od j = .ref a) ∧ d + 1 ≤ R.frames ∧ 60 * d + 40 ≤ R.locals ∧ cells ≤ R.cells ∧ slots ≤ R.slots ∧ g.1 ≤ 3072
/-- from here on, whatever the heap that stands for the memory: the machine gets there -/
def Go (p : Program) (l : Launch) (e : Env) (R : Room) (s : State) (m : MethodId) (args : Array Value) (below : List Frame) (meth : Method) (c : Code) (cells slots : Nat) (Z : State → Prop) (D : va_G) (cA : Nat → ClassId) (ad : Nat → Int → Nat) (od : Nat → Value) (A : Nat → Prop) (q : aMT) (pc : Nat) (L : aLs) (st : List aV) (μ : aM) : Prop :=
  wfL L → wfS st → wfM μ → ∀ (H : Heap) (locs : List Loc) (ls : Array Slot), va_P D vwCl (wsOf cA ad μ) H → va_S A s.heap H locs → lv_has ls q.2.2.2.1 (lvOf ad od 0 L) → W p l e R s m args below meth c H locs cells slots Z (F0 m pc ls (st.map (conc ad od)))
def retI (q : aMT) (pc : Nat) (rv : Option aV) : Prop := match rv with
  | none => decode q.2.2.1 pc = .ok (.return_, 1) ∧ q.2.2.2.2.1 = none
  | some (Sum.inl x) => decode q.2.2.1 pc = .ok (.ireturn, 1) ∧ ((q.2.2.2.2.1 = some .int) ∨ (q.2.2.2.2.1 = some .boolean ∧ (x = 0 ∨ x = 1)) ∨ (q.2.2.2.2.1 = some .byte ∧ (-128 ≤ x ∧ x ≤ 127)) ∨ (q.2.2.2.2.1 = some .char ∧ (0 ≤ x ∧ x ≤ 65535)))
  | some (Sum.inr (Sum.inl _)) => decode q.2.2.1 pc = .ok (.lreturn, 1) ∧ q.2.2.2.2.1 = some .long
  | some (Sum.inr (Sum.inr (Sum.inl _))) => decode q.2.2.1 pc = .ok (.areturn, 1) ∧ ∃ n, q.2.2.2.2.1 = some (.object n)
  | _ => False
def Rg (p : Program) (l : Launch) (e : Env) (R : Room) (s : State) (m : MethodId) (args : Array Value) (below : List Frame) (meth : Method) (c : Code) (cells slots : Nat) (Z : State → Prop) (D : va_G) (cA : Nat → ClassId) (ad : Nat → Int → Nat) (od : Nat → Value) (A : Nat → Prop) (q : aMT) (rv : Option aV) (μ : aM) : Prop :=
  wfM μ → wfO rv → ∀ (pc : Nat) (H : Heap) (locs : List Loc) (ls : Array Slot), va_P D vwCl (wsOf cA ad μ) H → va_S A s.heap H locs → retI q pc rv → W p l e R s m args below meth c H locs cells slots Z (F0 m pc ls ((optL rv).map (conc ad od)))
theorem lkp_mem : ∀ {l : List aC} {pc : Nat} {x : Instr × Nat × aRs}, lkp pc l = some x → (pc, x) ∈ l
  | [], _, _, h => by cases h
  | q :: l, pc, x, h => by
    unfold lkp at h
    cases hb : Nat.beq q.1 pc
    · rw [hb] at h; exact List.mem_cons_of_mem _ (lkp_mem h)
    · rw [hb] at h
      cases h
      rw [← Nat.eq_of_beq_eq_true hb]; exact List.mem_cons_self
theorem gi {l : List Jvm.Cond} (h : ∀ w ∈ l, w ∈ TW) : GoodIn TW l := fun w hw => ⟨h w hw, good_of_word (List.mem_filter.mp (h w hw)).2⟩
theorem popA_spec : ∀ {n : Nat} {st acc as t : List aV}, popA n st acc = some (as, t) → ∃ l, l.length = n ∧ st = l ++ t ∧ as = l.reverse ++ acc
  | 0, st, acc, as, t, h => by cases h; exact ⟨[], rfl, rfl, rfl⟩
  | n + 1, v :: st, acc, as, t, h => by
    obtain ⟨l, h1, h2, h3⟩ := popA_spec (n := n) h
    exact ⟨v :: l, by simp [h1], by rw [h2]; rfl, by rw [h3]; simp⟩
  | n + 1, [], _, _, _, h => by cases h
theorem cat_le {v : Value} : v.category ≤ 2 := by cases v <;> simp [Value.category]
theorem cats {t : List Value} (h : t.length ≤ 4) : (t.map fun v => v.category).sum ≤ 8 := by
  have : ∀ t : List Value, (t.map fun v => v.category).sum ≤ 2 * t.length := by
    intro t
    induction t with
    | nil => simp
    | cons a t ih => have := cat_le (v := a); simp; omega
  have := this t
  omega
theorem op1_i {st : List aV} {f : Int → List aV → Prop} (h : op1 st f) : ∃ x t, st = Sum.inl x :: t ∧ f x t := by
  unfold op1 at h; split at h
  · exact ⟨_, _, rfl, h⟩
  · exact h.elim
theorem op2_i {st : List aV} {f : Int → Int → List aV → Prop} (h : op2 st f) : ∃ x y t, st = Sum.inl y :: Sum.inl x :: t ∧ f x y t := by
  unfold op2 at h; split at h
  · exact ⟨_, _, _, rfl, h⟩
  · exact h.elim
theorem opL2_i {st : List aV} {f : Int → Int → List aV → Prop} (h : opL2 st f) : ∃ x y t, st = Sum.inr (Sum.inl y) :: Sum.inr (Sum.inl x) :: t ∧ f x y t := by
  unfold opL2 at h; split at h
  · exact ⟨_, _, _, rfl, h⟩
  · exact h.elim
theorem opLI_i {st : List aV} {f : Int → Int → List aV → Prop} (h : opLI st f) : ∃ x y t, st = Sum.inl y :: Sum.inr (Sum.inl x) :: t ∧ f x y t := by
  unfold opLI at h; split at h
  · exact ⟨_, _, _, rfl, h⟩
  · exact h.elim
theorem opL1_i {st : List aV} {f : Int → List aV → Prop} (h : opL1 st f) : ∃ x t, st = Sum.inr (Sum.inl x) :: t ∧ f x t := by
  unfold opL1 at h; split at h
  · exact ⟨_, _, rfl, h⟩
  · exact h.elim
theorem opQ_i {st : List aV} {f : (Nat × Int) ⊕ Nat → List aV → Prop} (h : opQ st f) : ∃ x t, st = Sum.inr (Sum.inr x) :: t ∧ f x t := by
  unfold opQ at h; split at h
  · exact ⟨_, _, rfl, h⟩
  · exact h.elim
theorem opR_i {st : List aV} {f : Nat → Int → List aV → Prop} (h : opR st f) : ∃ k a t, st = Sum.inr (Sum.inr (Sum.inl (k, a))) :: t ∧ f k a t := by
  unfold opR at h; split at h
  · exact ⟨_, _, _, rfl, h⟩
  · exact h.elim
theorem opIR_i {st : List aV} {f : Nat → Int → Int → List aV → Prop} (h : opIR st f) : ∃ k a i t, st = Sum.inl i :: Sum.inr (Sum.inr (Sum.inl (k, a))) :: t ∧ f k a i t := by
  unfold opIR at h; split at h
  · exact ⟨_, _, _, _, rfl, h⟩
  · exact h.elim
theorem opIRp_i {st : List aV} {f : Nat → Int → Int → List aV → Prop} (h : opIRp st f) : ∃ k a i t, st = Sum.inl i :: Sum.inr (Sum.inr (Sum.inl (k, a))) :: t ∧ f k a i t := by
  unfold opIRp at h; split at h
  · exact ⟨_, _, _, _, rfl, h⟩
  · exact h.elim
theorem opIIR_i {st : List aV} {f : Nat → Int → Int → Int → List aV → Prop} (h : opIIR st f) : ∃ k a i x t, st = Sum.inl x :: Sum.inl i :: Sum.inr (Sum.inr (Sum.inl (k, a))) :: t ∧ f k a i x t := by
  unfold opIIR at h; split at h
  · exact ⟨_, _, _, _, _, rfl, h⟩
  · exact h.elim
theorem opLIR_i {st : List aV} {f : Nat → Int → Int → Int → List aV → Prop} (h : opLIR st f) : ∃ k a i x t, st = Sum.inr (Sum.inl x) :: Sum.inl i :: Sum.inr (Sum.inr (Sum.inl (k, a))) :: t ∧ f k a i x t := by
  unfold opLIR at h; split at h
  · exact ⟨_, _, _, _, _, rfl, h⟩
  · exact h.elim
theorem ldI_i {v : Option aV} {f : Int → Prop} (h : ldI v f) : ∃ x, v = some (Sum.inl x) ∧ f x := by
  unfold ldI at h; split at h
  · exact ⟨_, rfl, h⟩
  · exact h.elim
theorem ldL_i {v : Option aV} {f : Int → Prop} (h : ldL v f) : ∃ x, v = some (Sum.inr (Sum.inl x)) ∧ f x := by
  unfold ldL at h; split at h
  · exact ⟨_, rfl, h⟩
  · exact h.elim
theorem ldR_i {v : Option aV} {f : (Nat × Int) ⊕ Nat → Prop} (h : ldR v f) : ∃ x, v = some (Sum.inr (Sum.inr x)) ∧ f x := by
  unfold ldR at h; split at h
  · exact ⟨_, rfl, h⟩
  · exact h.elim
theorem bif_i {b : Bool} {P : Prop} (h : bif b then P else False) : b = true ∧ P := by cases b; exact h.elim; exact ⟨rfl, h⟩
theorem wfS_c {v : aV} {t : List aV} (h : wfS (v :: t)) : wfV v ∧ wfS t := ⟨h v List.mem_cons_self, fun x hx => h x (List.mem_cons_of_mem _ hx)⟩
theorem wfS_k {v : aV} {t : List aV} (h : wfV v) (ht : wfS t) : wfS (v :: t) := fun x hx => by
  rcases List.mem_cons.mp hx with e | e
  · rw [e]; exact h
  · exact ht x e
theorem rng32 {k : Nat} {x : Int} (h : rng k x) (hk : ∀ len, karr k ≠ some (3, len)) : r32 x := by
  unfold rng at h
  split at h
  · unfold r32; omega
  · unfold r32; omega
  · rename_i q e; exact absurd e (hk _)
  · exact h
theorem rng64 {k : Nat} {x : Int} (h : rng k x) : r64 x := by
  unfold rng at h
  split at h
  · unfold r64; omega
  · unfold r64; omega
  · exact h
  · unfold r32 at h; unfold r64; omega
theorem up_wf {μ : aM} {k : Nat} {a j x : Int} (h : wfM μ) (hx : rng k x) : wfM (up μ k a j x) := by
  intro k' a' j'
  unfold up
  split
  · rename_i e; rw [e.1]; exact hx
  · exact h k' a' j'
theorem karr_obj {k j : Nat} {f : aFI} (h : kfld k j = some f) : karr k = none := by
  obtain ⟨n, c, l, e, -⟩ := kfld_knd h
  unfold karr; rw [e]
theorem rngObj {k j : Nat} {f : aFI} (h : kfld k j = some f) {x : Int} : rng k x ↔ r32 x := by
  unfold rng; rw [karr_obj h]
set_option maxRecDepth 100000 in
theorem okP_all : ∀ m, m < 211 → (codeOf m).all (fun e => match e.2.1 with | .putfield _ => (match vwCl[e.2.2.2.1]? with | some (_, T, _) => !(T e.2.2.2.2.1).2.2.2 | none => true) | _ => true) = true := by decide +kernel
theorem va_callA {p : Program} {l : Launch} {e : Env} {R : Room} {s : State} {m : MethodId} {args : Array Value} {below : List Frame} {meth : Method} {c : Code} {H : Heap} {locs : List Loc} {cells slots : Nat} {Z : State → Prop} {pc : Nat} {ls : Array Slot} {st0 rest : List Value} {D : va_G} {cA : Nat → ClassId} {ad : Nat → Int → Nat} {od : Nat → Value} {A0 A1 : Nat → Prop} {rv : Option aV} {μ' : aM} {a : Array Value} {H0 : Heap} {free : Addr → Prop}
    (hr : va_Run p l e R s m args below meth c H locs cells slots 0 0 (F0 m pc ls st0) rest (QQ D cA ad od A1 rv μ' a) free) (hS : va_S A0 H0 H locs) (hA : ∀ q, q < H.size → A1 q → A0 q) (hf : ∀ q, free q → A0 q)
    (kk : wfM μ' → wfO rv → ∀ (H1 : Heap) (locs1 : List Loc), va_P D vwCl (wsOf cA ad μ') H1 → va_S A0 H0 H1 locs1 → W p l e R s m args below meth c H1 locs1 cells slots Z (F0 m (pc + 3) ls ((rv.map (conc ad od)).toList ++ rest))) : W p l e R s m args below meth c H locs cells slots Z (F0 m pc ls st0) := by
  intro T hT X
  obtain ⟨v, st₀, t, T', L, h0, X', hL, e1, e2, ⟨⟨hv, hp, hw1, hw2⟩, hz, hk⟩, st⟩ := hr T hT X
  cases hv
  rw [h0] at hz hk
  obtain ⟨t2, a1, b1⟩ := kk hw1 hw2 T'.heap (locs ++ L) (by rw [e1]; exact hp)
    ⟨Nat.le_trans hS.1 (by rw [e1]; exact hz), fun q h1 h2 => by rw [e1, hk q (Nat.lt_of_lt_of_le h1 hS.1) (fun z => h2 (hA q (Nat.lt_of_lt_of_le h1 hS.1) z))]; exact hS.2.1 q h1 h2, fun q hq => by
      rcases List.mem_append.mp hq with h | h
      · exact hS.2.2 q h
      · exact hf _ (hL q h)⟩ T' rfl X'
  exact ⟨t2, st t2 a1, b1⟩

theorem mid_lt {mid : Nat} {q : aMT} (h : nthL MT mid = some q) : mid < 211 := nthL_lt h
theorem ok_at {p : Program} {l : Launch} {e : Env} {R : Room} {s : State} {m : MethodId} {args : Array Value} {below : List Frame} {meth : Method} {c : Code} {cells slots : Nat} {Z : State → Prop} {g : aG} {d mid : Nat} {D : va_G} {cA : Nat → ClassId} {ad : Nat → Int → Nat} {od : Nat → Value} {A : Nat → Prop} {q : aMT} (X : Ctx p R s m args c cells slots g d mid D cA ad od A q) {pc : Nat} {i : Instr} {n : Nat} {r : aRs} (hlk : lkp pc (codeOf mid) = some (i, n, r)) : decode q.2.2.1 pc = .ok (i, n) ∧ okI q.1 q.2.2.2.2.1 q.2.2.2.1 i n r pc = true ∧ (∀ idx, i = .putfield idx → ∀ C T N, vwCl[r.1]? = some (C, T, N) → (T r.2.1).2.2.2 = false) ∧ rtOf mid = cql q.2.2.2.2.1 := by
  have h1 := okM_all mid (mid_lt X.1)
  unfold okM at h1
  rw [X.1] at h1
  simp only [Bool.and_eq_true] at h1
  have h2 := List.all_eq_true.mp h1.1.1.1.1 _ (lkp_mem hlk)
  unfold okE at h2
  simp only [Bool.and_eq_true] at h2
  refine ⟨of_decide_eq_true h2.1, h2.2, ?_, by simpa using h1.1.1.2⟩
  intro idx hi C T N hv
  have h3 := List.all_eq_true.mp (okP_all mid (mid_lt X.1)) _ (lkp_mem hlk)
  simp only [hi, hv] at h3
  simpa using h3
theorem swT_i {x : Int} {K : Int → Prop} {Df : Prop} : ∀ {l : List Int} {lo : Int}, swT x K Df lo l → (∃ j off, l[j]? = some off ∧ x = lo + (j : Nat) ∧ K off) ∨ ((x < lo ∨ lo + l.length ≤ x) ∧ Df)
  | [], lo, h => Or.inr ⟨by simp; omega, h⟩
  | o :: l, lo, h => by
    by_cases e : x = lo
    · exact Or.inl ⟨0, o, rfl, by simpa using e, h.1 e⟩
    · rcases swT_i (l := l) (h.2 e) with ⟨j, off, h1, h2, h3⟩ | ⟨h1, h2⟩
      · exact Or.inl ⟨j + 1, off, by simpa using h1, by rw [h2]; simp; omega, h3⟩
      · exact Or.inr ⟨by simp; omega, h2⟩
theorem swL_i {x : Int} {K : Int → Prop} {df : Int} : ∀ {l : List (Int × Int)}, swL x K (K df) l → ∃ off, (off = df ∨ ∃ q9 ∈ l, q9.2 = off) ∧ Op.lookupswitch.offset l df x = off ∧ K off
  | [], h => ⟨df, Or.inl rfl, rfl, h⟩
  | (a, o) :: l, h => by
    by_cases e : x = a
    · refine ⟨o, Or.inr ⟨_, List.mem_cons_self, rfl⟩, ?_, h.1 e⟩
      simp [Op.lookupswitch.offset, e]
    · obtain ⟨off, h1, h2, h3⟩ := swL_i (l := l) (h.2 e)
      refine ⟨off, ?_, ?_, h3⟩
      · rcases h1 with h1 | ⟨q9, h1, h4⟩
        · exact Or.inl h1
        · exact Or.inr ⟨q9, List.mem_cons_of_mem _ h1, h4⟩
      · rw [← h2]; simp [Op.lookupswitch.offset, Ne.symm e, e]
theorem elds_i {tc : Nat} {g : aG} {k : Nat} {a i : Int} {f : (aM → Int) → Prop} (h : elds tc g k a i f) : True ∧ ((k < 100 ∧ ∃ len, karr k = some (tc, len) ∧ (0 ≤ i ∧ i < len a) ∧ f (fun μ => μ k a i)) ∨ (100 ≤ k ∧ fty k = tc ∧ (0 ≤ i ∧ i < flen g k a) ∧ f (fun _ => fget g k a i))) := by
  refine ⟨trivial, ?_⟩
  unfold elds at h
  cases hb : Nat.blt k 100
  · rw [hb, cond_false] at h
    obtain ⟨h1, h2, h3⟩ := bif_i h
    have hk : 100 ≤ k := by
      rcases Nat.lt_or_ge k 100 with z | z
      · rw [show Nat.blt k 100 = true from Nat.ble_eq_true_of_le (show k + 1 ≤ 100 by omega)] at hb; cases hb
      · exact z
    exact Or.inr ⟨hk, by simpa using h1, h2, h3⟩
  · rw [hb, cond_true] at h
    have hk : k < 100 := Nat.le_of_ble_eq_true hb
    split at h
    · rename_i tc' len e
      obtain ⟨h1, h2, h3⟩ := bif_i h
      have : tc' = tc := by simpa using h1
      subst this
      exact Or.inl ⟨hk, len, e, h2, h3⟩
    · exact h.elim
theorem ests_i {tc k : Nat} {a i : Int} {f : Prop} (h : ests tc k a i f) : ∃ len, karr k = some (tc, len) ∧ (0 ≤ i ∧ i < len a) ∧ f := by
  unfold ests at h
  split at h
  · rename_i tc' len e
    obtain ⟨h1, h2, h3⟩ := bif_i h
    have : tc' = tc := by simpa using h1
    subst this
    exact ⟨len, e, h2, h3⟩
  · exact h.elim
theorem nar_z {x : Int} (h : x = 0 ∨ x = 1) : vp_nar .boolean (Int32.ofInt x) = Int32.ofInt x := by rcases h with e | e <;> rw [e] <;> rfl
theorem hin_at {k : Nat} {C : String} {T : u_T} {N : Nat} (h : vwCl[k]? = some (C, T, N)) : ∀ w ∈ u_ws C T N, w ∈ TW := by
  intro w hw
  unfold TW
  rw [List.mem_filter]
  match k, h with
  | 0, h => cases h; exact ⟨inX0 w hw, gdX0 w hw⟩
  | 1, h => cases h; exact ⟨inX1 w hw, gdX1 w hw⟩
  | 2, h => cases h; exact ⟨inX2 w hw, gdX2 w hw⟩
  | 3, h => cases h; exact ⟨inX3 w hw, gdX3 w hw⟩
  | 4, h => cases h; exact ⟨inX4 w hw, gdX4 w hw⟩
  | 5, h => cases h; exact ⟨inX5 w hw, gdX5 w hw⟩
  | 6, h => cases h; exact ⟨inX6 w hw, gdX6 w hw⟩
  | 7, h => cases h; exact ⟨inX7 w hw, gdX7 w hw⟩
  | 8, h => cases h; exact ⟨inX8 w hw, gdX8 w hw⟩
  | 9, h => cases h; exact ⟨inX9 w hw, gdX9 w hw⟩
  | n + 10, h => simp [vwCl] at h
theorem cls_ok {k : Nat} {C : String} {T : u_T} {N : Nat} (h : vwCl[k]? = some (C, T, N)) : ∃ ty0 : Nat → FieldType, (∀ k, k < N → parseFieldDescriptor (T k).2.2.1 = some (ty0 k)) ∧ (∀ a, a < N → ∀ b, b < N → a ≠ b → (T a).2.1 ≠ (T b).2.1) := by
  match k, h with
  | 0, h => cases h; exact ⟨tyX0, tyX0_ok, nmX0⟩
  | 1, h => cases h; exact ⟨tyX1, tyX1_ok, nmX1⟩
  | 2, h => cases h; exact ⟨tyX2, tyX2_ok, nmX2⟩
  | 3, h => cases h; exact ⟨tyX3, tyX3_ok, nmX3⟩
  | 4, h => cases h; exact ⟨tyX4, tyX4_ok, nmX4⟩
  | 5, h => cases h; exact ⟨tyX5, tyX5_ok, nmX5⟩
  | 6, h => cases h; exact ⟨tyX6, tyX6_ok, nmX6⟩
  | 7, h => cases h; exact ⟨tyX7, tyX7_ok, nmX7⟩
  | 8, h => cases h; exact ⟨tyX8, tyX8_ok, nmX8⟩
  | 9, h => cases h; exact ⟨tyX9, tyX9_ok, nmX9⟩
  | n + 10, h => simp [vwCl] at h
def krefs : Bool := (List.range 76).all fun k => match kref k with
  | some (ek, tc, len) => decide (ek < 76) && decide (kcnt ek ≥ len) && decide (tc = 4 ∨ tc = 5)
  | none => true
theorem krefs_ok : krefs = true := by decide +kernel
theorem kref_ok {k ek tc : Nat} {len : Int} (h : kref k = some (ek, tc, len)) : ek < 76 ∧ ∃ tyn, (∀ cA : Nat → ClassId, (tysOf cA)[tc]? = some (cA tc, .object tyn)) ∧ len ≤ kcnt ek := by
  obtain ⟨n, hk⟩ := kref_knd h
  have h1 := List.all_eq_true.mp krefs_ok k (List.mem_range.mpr (knd_lt hk))
  rw [h] at h1
  simp only [Bool.and_eq_true, decide_eq_true_eq] at h1
  refine ⟨h1.1.1, ?_⟩
  rcases h1.2 with e | e
  · subst e; exact ⟨_, fun _ => rfl, h1.1.2⟩
  · subst e; exact ⟨_, fun _ => rfl, h1.1.2⟩
def refsB : Bool := ids.all fun q => match knd q.1 with
  | some (_, .inl (_, l)) => l.all (fun f => match f with | .inr z => decide (z.1 < 76) && decide (0 ≤ z.2 q.2) && decide (z.2 q.2 < kcnt z.1) | _ => true)
  | _ => true
set_option maxRecDepth 100000 in
theorem refsB_ok : refsB = true := by decide +kernel
theorem refs_ok {k j : Nat} {z : Nat × (Int → Int)} (h : kfld k j = some (.inr z)) {a : Int} (ha : refOk k a) : refOk z.1 (z.2 a) := by
  obtain ⟨n, c, l, hk, hl⟩ := kfld_knd h
  obtain ⟨p, hp⟩ := ids_at (by have := knd_lt hk; omega) ha
  have h1 := List.all_eq_true.mp refsB_ok _ (List.mem_of_getElem? hp)
  simp only [hk] at h1
  have h2 := List.all_eq_true.mp h1 _ (List.mem_of_getElem? (nthL_get hl))
  simp only [Bool.and_eq_true, decide_eq_true_eq] at h2
  unfold refOk
  rw [show Nat.blt z.1 100 = true from Nat.ble_eq_true_of_le (show z.1 + 1 ≤ 100 by omega), cond_true]
  exact ⟨h2.1.2, h2.2⟩
theorem str_ix {a : Int} (h : refOk 101 a) : ∃ j : Nat, j < 6 ∧ (j : Int) = a := by
  have h2 : 0 ≤ a ∧ a < 6 := h
  exact ⟨a.toNat, by omega, by omega⟩
theorem str_r2 {a : Int} (h : refOk 101 a) : refOk 102 a := h
theorem gtI_r {l : List Int} (h : ∀ x ∈ l, r32 x) (i : Int) : r32 (gtI l i) := by
  unfold gtI
  rw [List.getD_eq_getElem?_getD]
  cases e : l[i.toNat]? with
  | none => exact r32_0
  | some x => exact h x (List.mem_of_getElem? e)
theorem abv_r (i : Int) : r32 (gtI abvL i) := gtI_r (by intro x hx; unfold abvL at hx; unfold r32; simp at hx; omega) i
theorem str_r : ∀ j : Nat, ∀ i : Int, r32 (gtI (strL.getD j []) i) := by
  intro j i
  refine gtI_r (fun x hx => ?_) i
  have h1 : strL.all (fun l => l.all (fun x => decide (0 ≤ x) && decide (x < 128))) = true := by decide
  rw [List.getD_eq_getElem?_getD] at hx
  cases e : strL[j]? with
  | none => rw [e] at hx; cases hx
  | some l =>
    rw [e] at hx
    have h2 := List.all_eq_true.mp (List.all_eq_true.mp h1 l (List.mem_of_getElem? e)) x hx
    simp only [Bool.and_eq_true, decide_eq_true_eq] at h2
    unfold r32; omega
theorem n_w32 (z : Int) : Int32.ofInt (w32 z) = Int32.ofInt z := by apply n_inj; rw [n_ti, n_ti, w32_w]
theorem ref_k {k : Nat} {a : Int} (hk : 100 ≤ k) (h : refOk k a) : (k = 100 ∧ a = 0) ∨ (k = 101 ∧ 0 ≤ a ∧ a < 6) ∨ (k = 102 ∧ 0 ≤ a ∧ a < 6) ∨ (k = 103 ∧ a = 0) := by
  unfold refOk at h
  rw [show Nat.blt k 100 = false from Bool.eq_false_iff.mpr (fun z => by have := Nat.le_of_ble_eq_true z; omega), cond_false] at h
  unfold fcnt at h
  by_cases e0 : k = 100
  · subst e0; simp at h; exact Or.inl ⟨rfl, by omega⟩
  by_cases e1 : k = 101
  · subst e1; simp at h; exact Or.inr (Or.inl ⟨rfl, by omega, by omega⟩)
  by_cases e2 : k = 102
  · subst e2; simp at h; exact Or.inr (Or.inr (Or.inl ⟨rfl, by omega, by omega⟩))
  by_cases e3 : k = 103
  · subst e3; simp at h; exact Or.inr (Or.inr (Or.inr ⟨rfl, by omega⟩))
  rw [show (k == 100) = false by simpa using e0, show (k == 101) = false by simpa using e1, show (k == 102) = false by simpa using e2, show (k == 103) = false by simpa using e3] at h
  simp at h; omega
theorem for_iald {p : Program} {l : Launch} {e : Env} {R : Room} {s : State} {m : MethodId} {args : Array Value} {below : List Frame} {meth : Method} {c : Code} {cells slots : Nat} {Z : State → Prop} {g : aG} {d mid : Nat} {D : va_G} {cA : Nat → ClassId} {ad : Nat → Int → Nat} {od : Nat → Value} {A : Nat → Prop} {q : aMT} (X : Ctx p R s m args c cells slots g d mid D cA ad od A q) {pc k : Nat} {a i : Int} (hr9 : refOk k a) (hi9 : r32 i) (hk : 100 ≤ k) (hf9 : fty k = 0) (hin : 0 ≤ i ∧ i < flen g k a) {H : Heap} {locs : List Loc} {ls : Array Slot} {rest : List Value} (hS : va_S A s.heap H locs) (dec : decode q.2.2.1 pc = .ok (.iaload, 1)) (kk : r32 (fget g k a i) → W p l e R s m args below meth c H locs cells slots Z (F0 m (pc + 1) ls (.int (Int32.ofInt (fget g k a i)) :: rest))) : W p l e R s m args below meth c H locs cells slots Z (F0 m pc ls (.int (Int32.ofInt i) :: .ref (ad k a) :: rest)) := by
  obtain ⟨hq, hx, hb, hml, hown, hts, hK, hF, hD, hA, hod, hfr, hlo, hce, hsl, hg⟩ := id X
  rcases ref_k hk hr9 with ⟨rfl, rfl⟩ | ⟨rfl, -⟩ | ⟨rfl, -⟩ | ⟨rfl, rfl⟩
  · refine va_ti hx hb hF.1 hS (n_in hi9 hin) (v := .int (Int32.ofInt (fget g 100 0 i))) ?_ dec (kk (abv_r i))
    rw [n_ix hi9]
    show Value.int (Int32.ofInt (gtI abvL _)) = Value.int (Int32.ofInt (gtI abvL i))
    rw [show ((i.toNat : Nat) : Int) = i by omega]
  · exact absurd hf9 (by decide)
  · exact absurd hf9 (by decide)
  · refine va_ti hx hb hF.2.2.2.2.2.2 hS (n_in hi9 hin) (v := .int (Int32.ofInt (fget g 103 0 i))) ?_ dec (kk (w32_r _))
    rw [n_ix hi9]
    show Value.int (Int32.ofInt (g.2 _)) = Value.int (Int32.ofInt (w32 (g.2 i)))
    rw [n_w32, show ((i.toNat : Nat) : Int) = i by omega]
theorem for_bald {p : Program} {l : Launch} {e : Env} {R : Room} {s : State} {m : MethodId} {args : Array Value} {below : List Frame} {meth : Method} {c : Code} {cells slots : Nat} {Z : State → Prop} {g : aG} {d mid : Nat} {D : va_G} {cA : Nat → ClassId} {ad : Nat → Int → Nat} {od : Nat → Value} {A : Nat → Prop} {q : aMT} (X : Ctx p R s m args c cells slots g d mid D cA ad od A q) {pc k : Nat} {a i : Int} (hr9 : refOk k a) (hi9 : r32 i) (hk : 100 ≤ k) (hf9 : fty k = 2) (hin : 0 ≤ i ∧ i < flen g k a) {H : Heap} {locs : List Loc} {ls : Array Slot} {rest : List Value} (hS : va_S A s.heap H locs) (dec : decode q.2.2.1 pc = .ok (.baload, 1)) (kk : r32 (fget g k a i) → W p l e R s m args below meth c H locs cells slots Z (F0 m (pc + 1) ls (.int (Int32.ofInt (fget g k a i)) :: rest))) : W p l e R s m args below meth c H locs cells slots Z (F0 m pc ls (.int (Int32.ofInt i) :: .ref (ad k a) :: rest)) := by
  obtain ⟨hq, hx, hb, hml, hown, hts, hK, hF, hD, hA, hod, hfr, hlo, hce, hsl, hg⟩ := id X
  rcases ref_k hk hr9 with ⟨rfl, rfl⟩ | ⟨rfl, -⟩ | ⟨rfl, h1, h2⟩ | ⟨rfl, rfl⟩
  · exact absurd hf9 (by decide)
  · exact absurd hf9 (by decide)
  · obtain ⟨j9, rfl⟩ : ∃ j : Nat, a = (j : Int) := ⟨a.toNat, by omega⟩
    have hT := (hF.2.2.2.2.2.1 j9 (by omega)).2.2.2.1
    refine va_tb hx hb hT hS (by have := n_in hi9 hin; exact this) (v := .int (Int32.ofInt (fget g 102 j9 i))) ?_ dec (kk (str_r _ _))
    rw [n_ix hi9]
    show Value.int (Int32.ofInt (gtI (strL.getD j9 []) _)) = Value.int (Int32.ofInt (gtI (strL.getD j9 []) i))
    rw [show ((i.toNat : Nat) : Int) = i by omega]
  · exact absurd hf9 (by decide)
theorem n_ofNat {n : Nat} : Int32.ofNat n = Int32.ofInt (n : Int) := rfl
theorem for_len {p : Program} {l : Launch} {e : Env} {R : Room} {s : State} {m : MethodId} {args : Array Value} {below : List Frame} {meth : Method} {c : Code} {cells slots : Nat} {Z : State → Prop} {g : aG} {d mid : Nat} {D : va_G} {cA : Nat → ClassId} {ad : Nat → Int → Nat} {od : Nat → Value} {A : Nat → Prop} {q : aMT} (X : Ctx p R s m args c cells slots g d mid D cA ad od A q) {pc k : Nat} {a : Int} (hr9 : refOk k a) (hb1 : Nat.blt k 100 = false) (hb2 : (k == 101) = false) {H : Heap} {locs : List Loc} {ls : Array Slot} {rest : List Value} (hS : va_S A s.heap H locs) (dec : decode q.2.2.1 pc = .ok (.arraylength, 1)) (kk : r32 (flen g k a) → W p l e R s m args below meth c H locs cells slots Z (F0 m (pc + 1) ls (.int (Int32.ofInt (flen g k a)) :: rest))) : W p l e R s m args below meth c H locs cells slots Z (F0 m pc ls (.ref (ad k a) :: rest)) := by
  obtain ⟨hq, hx, hb, hml, hown, hts, hK, hF, hD, hA, hod, hfr, hlo, hce, hsl, hg⟩ := id X
  have hk : 100 ≤ k := by
    rcases Nat.lt_or_ge k 100 with z | z
    · rw [show Nat.blt k 100 = true from Nat.ble_eq_true_of_le (show k + 1 ≤ 100 by omega)] at hb1; cases hb1
    · exact z
  rcases ref_k hk hr9 with ⟨rfl, rfl⟩ | ⟨rfl, -⟩ | ⟨rfl, h1, h2⟩ | ⟨rfl, rfl⟩
  · exact va_tlen hx hb hF.1 hS n_ofNat dec (kk (show r32 7 by unfold r32; omega))
  · cases hb2
  · obtain ⟨j9, rfl⟩ : ∃ j : Nat, a = (j : Int) := ⟨a.toNat, by omega⟩
    have hT := (hF.2.2.2.2.2.1 j9 (by omega)).2.2.2.1
    refine va_tlen hx hb hT hS n_ofNat dec (kk (show r32 ((strL.getD j9 []).length : Int) from ?_))
    have : ∀ j, j < 6 → (strL.getD j []).length < 10 := by decide
    have := this j9 (by omega)
    unfold r32; omega
  · exact va_tlen hx hb hF.2.2.2.2.2.2 hS n_ofNat dec (kk (show r32 (g.1 : Int) by unfold r32; omega))
theorem for_gets1 {p : Program} {l : Launch} {e : Env} {R : Room} {s : State} {m : MethodId} {args : Array Value} {below : List Frame} {meth : Method} {c : Code} {cells slots : Nat} {Z : State → Prop} {g : aG} {d mid : Nat} {D : va_G} {cA : Nat → ClassId} {ad : Nat → Int → Nat} {od : Nat → Value} {A : Nat → Prop} {q : aMT} (X : Ctx p R s m args c cells slots g d mid D cA ad od A q) {pc idx pl : Nat} (ok : (q.1 == "PealOfExcuses$Actor" && idx == 41 && decide (lw_tbl[pl]? = some (Jvm.Cond.fieldLinkNest q.1 idx "PealOfExcuses" "ABOVE" "[I" "PealOfExcuses"))) = true) {H : Heap} {locs : List Loc} {ls : Array Slot} {rest : List Value} (hS : va_S A s.heap H locs) (dec : decode q.2.2.1 pc = .ok (.getstatic idx, 3)) (kk : W p l e R s m args below meth c H locs cells slots Z (F0 m (pc + 3) ls (.ref (ad 100 0) :: rest))) : W p l e R s m args below meth c H locs cells slots Z (F0 m pc ls rest) := by
  obtain ⟨hq, hx, hb, hml, hown, hts, hK, hF, hD, hA, hod, hfr, hlo, hce, hsl, hg⟩ := id X
  simp only [Bool.and_eq_true, beq_iff_eq] at ok
  have h9 := hF.2.2.1
  rw [← ok.1.1, ← ok.1.2] at h9
  exact va_getsN hx hb hF.2.1 hS hown (va_Nw.use rfl h9) (fun _ h9 => h9) dec kk
theorem nthL_some {α : Type} : ∀ {l : List α} {k : Nat}, k < l.length → ∃ x, nthL l k = some x
  | [], _, h => by simp at h
  | x :: _, 0, _ => ⟨x, rfl⟩
  | _ :: l, k + 1, h => nthL_some (l := l) (by simpa using h)
theorem cal_mid {g : aG} {d mid : Nat} {as : List aV} {μ : aM} {Q : aQ} (h : Cal g d mid as μ Q) : ∃ q, nthL MT mid = some q := by
  apply nthL_some
  cases d with
  | zero => exact h.elim
  | succ d =>
    obtain ⟨-, n, h⟩ := h
    cases n with
    | zero => exact h.elim
    | succ n =>
      simp only [wpK] at h
      cases hc : nthL CT mid with
      | none => rw [show codeOf mid = [] by unfold codeOf; rw [hc]] at h; exact h.elim
      | some x => exact (nthL_lt hc : mid < CT.length)
theorem optL_map {ad : Nat → Int → Nat} {od : Nat → Value} {rv : Option aV} {t : List aV} : (optL rv ++ t).map (conc ad od) = (rv.map (conc ad od)).toList ++ t.map (conc ad od) := by
  cases rv <;> simp [optL]
theorem wfS_opt {rv : Option aV} {t : List aV} (h : wfO rv) (ht : wfS t) : wfS (optL rv ++ t) := by
  intro v hv
  rcases List.mem_append.mp hv with e | e
  · cases rv with
    | none => cases e
    | some w => exact h v (by rw [List.mem_singleton.mp e])
  · exact ht v e
theorem pre_call {p : Program} {l : Launch} {e : Env} {R : Room} {s : State} {m : MethodId} {args : Array Value} {below : List Frame} {meth : Method} {c : Code} {cells slots : Nat} {Z : State → Prop} {g : aG} {d mid : Nat} {D : va_G} {cA : Nat → ClassId} {ad : Nat → Int → Nat} {od : Nat → Value} {A : Nat → Prop} {q : aMT} (X : Ctx p R s m args c cells slots g d mid D cA ad od A q) {μ : aM} {H : Heap} {locs : List Loc} (hP : va_P D vwCl (wsOf cA ad μ) H) (hS : va_S A s.heap H locs) : (∀ x, va_A (wsOf cA ad μ) H.size x → A x) ∧ ∀ U : State, U.heap = H → s.WarmedH U.vm → PreU g D cA ad od μ H.size U := by
  obtain ⟨hq, hx, hb, hml, hown, hts, hK, hF, hD, hA, hod, hfr, hlo, hce, hsl, hg⟩ := id X
  have hsub : ∀ x, va_A (wsOf cA ad μ) H.size x → A x := by
    intro x hx9
    rcases hx9 with ⟨k, e9, h9⟩ | h9
    · exact (hD μ).2 k (x, e9) h9
    · exact hA x (Nat.le_trans hS.1 h9)
  refine ⟨hsub, fun U hU hW => ⟨by rw [hU], by rw [hU]; exact hP, va_K.moved hW.alike hK, (hD μ).weaken (fun _ _ _ _ => trivial), ?_⟩⟩
  rw [hU]
  exact ((hF.kept hS.2.1).narrow hsub).moved hW
theorem pre_blind {g : aG} {D : va_G} {cA : Nat → ClassId} {ad : Nat → Int → Nat} {od : Nat → Value} {μ : aM} {sz : Nat} {av : List Value} : FrameBlind (va_Pc av (PreU g D cA ad od μ sz)) := by
  intro a U f mk h
  obtain ⟨q0, q1, qP, qK, qD, qF⟩ := h
  exact ⟨q0, q1, qP, va_K.moved (u := U) (U := U.calling f mk a) (Vm.Alike.refl U.vm) qK, qD, FOR.call qF f mk a⟩
theorem recv_at {p : Program} {l : Launch} {e : Env} {R : Room} {s : State} {m : MethodId} {args : Array Value} {below : List Frame} {meth : Method} {c : Code} {cells slots : Nat} {Z : State → Prop} {g : aG} {d mid : Nat} {D : va_G} {cA : Nat → ClassId} {ad : Nat → Int → Nat} {od : Nat → Value} {A : Nat → Prop} {q : aMT} (X : Ctx p R s m args c cells slots g d mid D cA ad od A q) {k ci : Nat} {a : Int} {μ : aM} {H : Heap} {locs : List Loc} (hP : va_P D vwCl (wsOf cA ad μ) H) (hS : va_S A s.heap H locs) (hr : refOk k a) (hc : kcls k = some ci) : ∃ cell : Cell, H[ad k a]? = some cell ∧ cell.vm.isStatics = false ∧ s.vm.findClass (tyq ci) = some cell.cls := by
  obtain ⟨hq, hx, hb, hml, hown, hts, hK, hF, hD, hA, hod, hfr, hlo, hce, hsl, hg⟩ := id X
  rcases Nat.lt_or_ge k 100 with hk | hk
  · obtain ⟨n9, l9, hkd⟩ := kcls_knd hc hk
    obtain ⟨C, T, N, hv, -, -⟩ := kchk_at hkd
    obtain ⟨p9, hp9⟩ := ids_at hk hr
    have hat := ws_at (cA := cA) (ad := ad) (μ := μ) hp9
    unfold cellE at hat
    rw [hkd] at hat
    have := va_recv hK hP hv hat
    rw [show tyq ci = C by unfold tyq; rw [hv]]
    exact this
  · rcases ref_k hk hr with ⟨rfl, -⟩ | ⟨rfl, h1, h2⟩ | ⟨rfl, -⟩ | ⟨rfl, -⟩
    · cases hc
    · obtain ⟨j9, rfl⟩ : ∃ j : Nat, a = (j : Int) := ⟨a.toNat, by omega⟩
      obtain ⟨cell, c1, c2, c3, c4⟩ := ((hF.2.2.2.2.2.1 j9 (by omega)).1).kept hS.2.1
      obtain rfl : ci = 101 := (Option.some.inj hc).symm
      exact ⟨cell, c1, c2, c3⟩
    · cases hc
    · cases hc
theorem okW_at {mid : Nat} {q' : aMT} (h : nthL MT mid = some q') (hl : mid ≠ m_L_law) : Jvm.Cond.code q'.2.1 q'.2.2.1 q'.2.2.2.1 q'.2.2.2.2.1 ∈ TW ∧ (bif isSt mid then Jvm.Cond.static q'.2.1 else Jvm.Cond.instanceMethod q'.2.1) ∈ TW ∧ (isSt mid = false → Jvm.Cond.selects q'.2.1.cls q'.2.1 q'.2.1 ∈ TW) ∧ Jvm.Cond.initialized q'.2.1.cls ∈ TW ∧ plainName q'.2.1.cls = true ∧ q'.2.1.cls ≠ "java/lang/invoke/MethodHandle" ∧ q'.2.1.cls ≠ "java/lang/invoke/VarHandle" ∧ (parseMethodDescriptor q'.2.1.desc).map (fun d => d.parameters.length) = some q'.2.2.2.2.2.1 := by
  have h1 := okW_all mid (mid_lt h) hl
  unfold okW at h1
  rw [h] at h1
  simp only [Bool.and_eq_true, decide_eq_true_eq, Bool.or_eq_true] at h1
  obtain ⟨⟨⟨⟨⟨⟨⟨a1, a2⟩, a3⟩, a4⟩, a5⟩, a6⟩, a7⟩, a8⟩ := h1
  refine ⟨tw_in a1 rfl, tw_in a2 ?_, fun z => ?_, tw_in a4 rfl, a5, a6, a7, a8⟩
  · cases isSt mid <;> rfl
  · rcases a3 with a3 | a3
    · rw [z] at a3; cases a3
    · exact tw_in a3 rfl
theorem inv_v {p : Program} {l : Launch} {e : Env} {R : Room} {s : State} {m : MethodId} {args : Array Value} {below : List Frame} {meth : Method} {c : Code} {cells slots : Nat} {Z : State → Prop} {g : aG} {d mid : Nat} {D : va_G} {cA : Nat → ClassId} {ad : Nat → Int → Nat} {od : Nat → Value} {A : Nat → Prop} {q : aMT} (X : Ctx p R s m args c cells slots g d mid D cA ad od A q) (hCal : CalS l g d) {pc idx k : Nat} {a : Int} {as t : List aV} {r : aRs} {L : aLs} {st : List aV} {μ : aM} {H : Heap} {locs : List Loc} {ls : Array Slot} (hpop : popA (r.2.1 + 1) st [] = some (Sum.inr (Sum.inr (Sum.inl (k, a))) :: as, t)) (hc : kcls k = some r.2.2.2.toNat) (ht4 : t.length ≤ 4) (h : Cal g d r.1 (Sum.inr (Sum.inr (Sum.inl (k, a))) :: as) μ (fun rv μ' => Go p l e R s m args below meth c cells slots Z D cA ad od A q (pc + 3) L (optL rv ++ t) μ'))
    (ok : (match nthL MT r.1 with | some q' => (r.1 != m_L_law) && decide (lw_tbl[r.2.2.1]? = some (Jvm.Cond.methodLink q.1 idx q'.2.1)) && (r.2.1 == q'.2.2.2.2.2.1) && (tyq r.2.2.2.toNat == q'.2.1.cls) && (isSt r.1 == false) | none => true) = true)
    (hwL : wfL L) (hwS : wfS st) (hwM : wfM μ) (hP : va_P D vwCl (wsOf cA ad μ) H) (hS : va_S A s.heap H locs) (hl : lv_has ls q.2.2.2.1 (lvOf ad od 0 L)) (dec : decode q.2.2.1 pc = .ok (.invokevirtual idx, 3)) : W p l e R s m args below meth c H locs cells slots Z (F0 m pc ls (st.map (conc ad od))) := by
  obtain ⟨hq, hx, hb, hml, hown, hts, hK, hF, hD, hA, hod, hfr, hlo, hce, hsl, hg⟩ := id X
  obtain ⟨q', hq'⟩ := cal_mid h
  rw [hq'] at ok
  simp only [Bool.and_eq_true, decide_eq_true_eq, beq_iff_eq, bne_iff_ne] at ok
  obtain ⟨⟨⟨⟨o1, o2⟩, o3⟩, o4⟩, o5⟩ := ok
  obtain ⟨w1, w2, w3, w4, w5, w6, w7, w8⟩ := okW_at hq' o1
  rw [o5, cond_false] at w2
  obtain ⟨rv, μ', h1, h2⟩ := cone_cal g d _ _ _ _ h
  have hE := h2 (fun r1 m1 => r1 = rv ∧ m1 = μ') ⟨rfl, rfl⟩
  obtain ⟨l9, e1, e2, e3⟩ := popA_spec hpop
  rw [List.append_nil] at e3
  have hwA : wfS (Sum.inr (Sum.inr (Sum.inl (k, a))) :: as) := by
    rw [e3]; intro v hv; exact hwS v (by rw [e2]; exact List.mem_append_left _ (List.mem_reverse.mp hv))
  have hwT : wfS t := fun v hv => hwS v (by rw [e2]; exact List.mem_append_right _ hv)
  have hr9 : refOk k a := (wfS_c hwA).1
  have hM := hCal r.1 _ μ rv μ' hE q' hq' o1 hwM hwA D cA ad od H.size hod
  obtain ⟨hsub, hpre⟩ := pre_call (l := l) (e := e) (below := below) (meth := meth) (Z := Z) X hP hS
  obtain ⟨hml9⟩ : Nonempty (q'.2.2.2.1 ≤ 21) := ⟨by
    have h9 := okM_all r.1 (mid_lt hq')
    unfold okM at h9
    rw [hq'] at h9
    simp only [Bool.and_eq_true, decide_eq_true_eq] at h9
    exact h9.2⟩
  have hlen : (as.map (conc ad od)).length = q'.2.2.2.2.2.1 := by
    have : (Sum.inr (Sum.inr (Sum.inl (k, a))) :: as).length = r.2.1 + 1 := by rw [e3, List.length_reverse, e1]
    simp at this
    rw [List.length_map, this, o3]
  have run := va_runV (p := p) (e := e) (below := below) (meth := meth) (m := m) (c := c) (locs := locs) (cells := cells) (slots := slots) (R := R) (As := as.map (conc ad od)) (rest := t.map (conc ad od)) (g := F0 m pc ls (st.map (conc ad od))) (b := ad k a) (n := q'.2.2.2.2.2.1) (own := q.1) (Ts := TW) (C := q'.2.1.cls) ⟨hx, hb, hml, hown, hts⟩ hM
    (cwV _ hts (gi (fun w hw => by
      rcases List.mem_append.mp hw with z | z
      · simp only [List.mem_cons, List.not_mem_nil, or_false] at z
        rcases z with rfl | rfl | rfl | rfl
        · exact tw_in o2 rfl
        · exact w2
        · exact w3 o5
        · exact w4
      · rcases List.mem_cons.mp z with rfl | z
        · exact w1
        · exact z)) rfl rfl rfl ⟨rfl, w6, w7, w8⟩ ⟨hfr, by show 8 + (q'.2.2.2.1 + 11) + 60 * d ≤ R.locals; omega⟩)
    ⟨pre_blind, (by have := recv_at (l := l) (e := e) (below := below) (meth := meth) (Z := Z) X hP hS hr9 hc; rw [o4] at this; exact this), fun U hU hW => ⟨rfl, hpre U hU hW⟩⟩
    rfl hlen hl.1 (by
      show st.map (conc ad od) = _
      rw [e2, List.map_append, show l9 = (Sum.inr (Sum.inr (Sum.inl (k, a))) :: as).reverse by rw [e3, List.reverse_reverse]]
      simp [conc]) (lv_room (cats (by rw [List.length_map]; exact ht4))) dec ⟨hce, hsl⟩
  refine va_callA run hS (fun x _ z => hsub x z) (fun x z => hsub x z) (fun hwM' hwO H1 locs1 hP1 hS1 => ?_)
  have := h1 hwL (wfS_opt hwO hwT) hwM' H1 locs1 ls hP1 hS1 hl
  rw [optL_map] at this
  exact this
theorem inv_s {p : Program} {l : Launch} {e : Env} {R : Room} {s : State} {m : MethodId} {args : Array Value} {below : List Frame} {meth : Method} {c : Code} {cells slots : Nat} {Z : State → Prop} {g : aG} {d mid : Nat} {D : va_G} {cA : Nat → ClassId} {ad : Nat → Int → Nat} {od : Nat → Value} {A : Nat → Prop} {q : aMT} (X : Ctx p R s m args c cells slots g d mid D cA ad od A q) (hCal : CalS l g d) {pc idx : Nat} {as t : List aV} {r : aRs} {L : aLs} {st : List aV} {μ : aM} {H : Heap} {locs : List Loc} {ls : Array Slot} (hpop : popA r.2.1 st [] = some (as, t)) (ht4 : t.length ≤ 4) (h : Cal g d r.1 as μ (fun rv μ' => Go p l e R s m args below meth c cells slots Z D cA ad od A q (pc + 3) L (optL rv ++ t) μ'))
    (ok : (match nthL MT r.1 with | some q' => (r.1 != m_L_law) && decide (lw_tbl[r.2.2.1]? = some (Jvm.Cond.methodLink q.1 idx q'.2.1)) && (r.2.1 == q'.2.2.2.2.2.1) && isSt r.1 | none => true) = true)
    (hwL : wfL L) (hwS : wfS st) (hwM : wfM μ) (hP : va_P D vwCl (wsOf cA ad μ) H) (hS : va_S A s.heap H locs) (hl : lv_has ls q.2.2.2.1 (lvOf ad od 0 L)) (dec : decode q.2.2.1 pc = .ok (.invokestatic idx, 3)) : W p l e R s m args below meth c H locs cells slots Z (F0 m pc ls (st.map (conc ad od))) := by
  obtain ⟨hq, hx, hb, hml, hown, hts, hK, hF, hD, hA, hod, hfr, hlo, hce, hsl, hg⟩ := id X
  obtain ⟨q', hq'⟩ := cal_mid h
  rw [hq'] at ok
  simp only [Bool.and_eq_true, decide_eq_true_eq, beq_iff_eq, bne_iff_ne] at ok
  obtain ⟨⟨⟨o1, o2⟩, o3⟩, o5⟩ := ok
  obtain ⟨w1, w2, w3, w4, w5, w6, w7, w8⟩ := okW_at hq' o1
  rw [o5, cond_true] at w2
  obtain ⟨rv, μ', h1, h2⟩ := cone_cal g d _ _ _ _ h
  have hE := h2 (fun r1 m1 => r1 = rv ∧ m1 = μ') ⟨rfl, rfl⟩
  obtain ⟨l9, e1, e2, e3⟩ := popA_spec hpop
  rw [List.append_nil] at e3
  have hwA : wfS as := by
    rw [e3]; intro v hv; exact hwS v (by rw [e2]; exact List.mem_append_left _ (List.mem_reverse.mp hv))
  have hwT : wfS t := fun v hv => hwS v (by rw [e2]; exact List.mem_append_right _ hv)
  have hM := hCal r.1 _ μ rv μ' hE q' hq' o1 hwM hwA D cA ad od H.size hod
  obtain ⟨hsub, hpre⟩ := pre_call (l := l) (e := e) (below := below) (meth := meth) (Z := Z) X hP hS
  obtain ⟨hml9⟩ : Nonempty (q'.2.2.2.1 ≤ 21) := ⟨by
    have h9 := okM_all r.1 (mid_lt hq')
    unfold okM at h9
    rw [hq'] at h9
    simp only [Bool.and_eq_true, decide_eq_true_eq] at h9
    exact h9.2⟩
  have hlen : (as.map (conc ad od)).length = q'.2.2.2.2.2.1 := by
    rw [List.length_map, e3, List.length_reverse, e1, o3]
  have run := va_runS (p := p) (e := e) (below := below) (meth := meth) (m := m) (c := c) (locs := locs) (cells := cells) (slots := slots) (R := R) (As := as.map (conc ad od)) (rest := t.map (conc ad od)) (g := F0 m pc ls (st.map (conc ad od))) (n := q'.2.2.2.2.2.1) (own := q.1) (Ts := TW) ⟨hx, hb, hml, hown, hts⟩ hM
    (va_cwS _ hts (gi (fun w hw => by
      rcases List.mem_append.mp hw with z | z
      · simp only [List.mem_cons, List.not_mem_nil, or_false] at z
        rcases z with rfl | rfl | rfl
        · exact tw_in o2 rfl
        · exact w2
        · exact w4
      · rcases List.mem_cons.mp z with rfl | z
        · exact w1
        · exact z)) rfl rfl rfl ⟨w6, w7, w8⟩ ⟨hfr, by show 8 + (q'.2.2.2.1 + 11) + 60 * d ≤ R.locals; omega⟩)
    ⟨pre_blind, fun U hU hW => ⟨rfl, hpre U hU hW⟩⟩
    rfl hlen hl.1 (by
      show st.map (conc ad od) = _
      rw [e2, List.map_append, show l9 = as.reverse by rw [e3, List.reverse_reverse]]
      simp) (lv_room (cats (by rw [List.length_map]; exact ht4))) dec ⟨hce, hsl⟩
  refine va_callA run hS (fun x _ z => hsub x z) (fun x z => hsub x z) (fun hwM' hwO H1 locs1 hP1 hS1 => ?_)
  have := h1 hwL (wfS_opt hwO hwT) hwM' H1 locs1 ls hP1 hS1 hl
  rw [optL_map] at this
  exact this
theorem wMath : ∀ w ∈ [Jvm.Cond.static Lib.Math.max.name, .static Lib.Math.min.name, .static Lib.Math.abs.name, .initialized "java/lang/Math", .code Lib.Math.max.name Lib.Math.max.code 2 (some .int), .code Lib.Math.min.name Lib.Math.min.code 2 (some .int), .code Lib.Math.abs.name Lib.Math.abs.code 1 (some .int), .native arraycopyName, .static arraycopyName, .initialized "java/lang/System"], w ∈ TW := by
  intro w hw
  unfold TW
  rw [List.mem_filter]
  refine ⟨?_, ?_⟩
  · revert w; decide +kernel
  · revert w; decide +kernel
theorem wM {k : Nat} {w : Jvm.Cond} (h : [Jvm.Cond.static Lib.Math.max.name, .static Lib.Math.min.name, .static Lib.Math.abs.name, .initialized "java/lang/Math", .code Lib.Math.max.name Lib.Math.max.code 2 (some .int), .code Lib.Math.min.name Lib.Math.min.code 2 (some .int), .code Lib.Math.abs.name Lib.Math.abs.code 1 (some .int), .native arraycopyName, .static arraycopyName, .initialized "java/lang/System"][k]? = some w) : w ∈ TW := wMath w (List.mem_of_getElem? h)
def rngT (tc : Nat) (x : Int) : Prop := match tc with
  | 1 => x = 0 ∨ x = 1
  | 2 => -128 ≤ x ∧ x ≤ 127
  | 3 => r64 x
  | _ => r32 x
theorem rng_tc {k tc : Nat} {l : Int → Int} {x : Int} (h : karr k = some (tc, l)) : rng k x ↔ rngT tc x := by
  unfold rng
  rw [h]
  match tc with
  | 0 => exact Iff.rfl
  | 1 => exact Iff.rfl
  | 2 => exact Iff.rfl
  | 3 => exact Iff.rfl
  | n + 4 => exact Iff.rfl
theorem cp_wf {μ : aM} {k0 k1 : Nat} {i0 sp i1 dp n : Int} {tc : Nat} {l0 l1 : Int → Int} (h : wfM μ) (h0 : karr k0 = some (tc, l0)) (h1 : karr k1 = some (tc, l1)) : wfM (cp μ k0 i0 sp k1 i1 dp n) := by
  intro k i j
  unfold cp
  split
  · rename_i z
    rw [z.1, rng_tc h1, ← rng_tc h0]
    exact h k0 i0 (sp + (j - dp))
  · exact h k i j
theorem copy_at {p : Program} {l : Launch} {e : Env} {R : Room} {s : State} {m : MethodId} {args : Array Value} {below : List Frame} {meth : Method} {c : Code} {cells slots : Nat} {Z : State → Prop} {g : aG} {d mid : Nat} {D : va_G} {cA : Nat → ClassId} {ad : Nat → Int → Nat} {od : Nat → Value} {A : Nat → Prop} {q : aMT} (X : Ctx p R s m args c cells slots g d mid D cA ad od A q) {pc idx k0 k1 tc : Nat} {i0 i1 sp dp n : Int} {len0 len1 : Int → Int} {t : List aV} {L : aLs} {μ : aM} {H : Heap} {locs : List Loc} {ls : Array Slot} (ha0 : karr k0 = some (tc, len0)) (ha1 : karr k1 = some (tc, len1)) (ht4 : t.length ≤ 4) (hin : 0 ≤ sp ∧ 0 ≤ dp ∧ 0 ≤ n ∧ sp + n ≤ len0 i0 ∧ dp + n ≤ len1 i1) (h : Go p l e R s m args below meth c cells slots Z D cA ad od A q (pc + 3) L t (cp μ k0 i0 sp k1 i1 dp n)) (hr0 : refOk k0 i0) (hr1 : refOk k1 i1) (hsp : r32 sp) (hdp : r32 dp) (hn : r32 n) (hlk : Jvm.Cond.methodLink q.1 idx arraycopyName ∈ TW)
    (hwL : wfL L) (hwS : wfS t) (hwM : wfM μ) (hP : va_P D vwCl (wsOf cA ad μ) H) (hS : va_S A s.heap H locs) (hl : lv_has ls q.2.2.2.1 (lvOf ad od 0 L)) (dec : decode q.2.2.1 pc = .ok (.invokestatic idx, 3)) : W p l e R s m args below meth c H locs cells slots Z (F0 m pc ls (.int (Int32.ofInt n) :: .int (Int32.ofInt dp) :: .ref (ad k1 i1) :: .int (Int32.ofInt sp) :: .ref (ad k0 i0) :: t.map (conc ad od))) := by
  obtain ⟨hq, hx, hb, hml, hown, hts, hK, hF, hD, hA, hod, hfr, hlo, hce, hsl, hg⟩ := id X
  obtain ⟨n0, hkd0⟩ := karr_knd ha0
  obtain ⟨n1, hkd1⟩ := karr_knd ha1
  obtain ⟨p0, hp0⟩ := ids_at (by have := knd_lt hkd0; omega) hr0
  obtain ⟨p1, hp1⟩ := ids_at (by have := knd_lt hkd1; omega) hr1
  have hat0 := ws_at (cA := cA) (ad := ad) (μ := μ) hp0
  unfold cellE at hat0
  rw [hkd0] at hat0
  have hat1 := ws_at (cA := cA) (ad := ad) (μ := μ) hp1
  unfold cellE at hat1
  rw [hkd1] at hat1
  have he := ws_set (cA := cA) (ad := ad) hp1 (cp_off (μ := μ) (k0 := k0) (a0 := i0) (sp := sp) (dp := dp) (n := n))
  unfold cellE at he
  rw [hkd1] at he
  have c32 : (fun j : Nat => Int32.ofInt (cp μ k0 i0 sp k1 i1 dp n k1 i1 j)) = va_cpy (fun j : Nat => Int32.ofInt (μ k0 i0 j)) (fun j : Nat => Int32.ofInt (μ k1 i1 j)) sp.toNat dp.toNat n.toNat := by
    funext j
    unfold va_cpy cp
    by_cases z : dp.toNat ≤ j ∧ j < dp.toNat + n.toNat
    · rw [if_pos z, if_pos ⟨rfl, rfl, by omega, by omega⟩, show sp + ((j : Int) - dp) = ((sp.toNat + (j - dp.toNat) : Nat) : Int) by omega]
    · rw [if_neg z, if_neg (fun y => z ⟨by omega, by omega⟩)]
  have c64 : (fun j : Nat => Int64.ofInt (cp μ k0 i0 sp k1 i1 dp n k1 i1 j)) = va_cpy (fun j : Nat => Int64.ofInt (μ k0 i0 j)) (fun j : Nat => Int64.ofInt (μ k1 i1 j)) sp.toNat dp.toNat n.toNat := by
    funext j
    unfold va_cpy cp
    by_cases z : dp.toNat ≤ j ∧ j < dp.toNat + n.toNat
    · rw [if_pos z, if_pos ⟨rfl, rfl, by omega, by omega⟩, show sp + ((j : Int) - dp) = ((sp.toNat + (j - dp.toNat) : Nat) : Int) by omega]
    · rw [if_neg z, if_neg (fun y => z ⟨by omega, by omega⟩)]
  have hlocs : ((t.map (conc ad od)).map fun v => v.category).sum + (nativeFrameWords "java/lang/System" "arraycopy" 5 + 11) ≤ R.locals := by
    have h1 := cats (t := t.map (conc ad od)) (by rw [List.length_map]; exact ht4)
    have h2 : nativeFrameWords "java/lang/System" "arraycopy" 5 + 11 ≤ 32 := by decide +kernel
    omega
  have s1 : ¬ Int32.ofInt sp < 0 := fun z => by have := (n_lt hsp r32_0).mp z; omega
  have s2 : ¬ Int32.ofInt dp < 0 := fun z => by have := (n_lt hdp r32_0).mp z; omega
  have s3 : ¬ Int32.ofInt n < 0 := fun z => by have := (n_lt hn r32_0).mp z; omega
  have s4 : (Int32.ofInt sp).toNatClampNeg + (Int32.ofInt n).toNatClampNeg ≤ (len0 i0).toNat := by rw [n_ix hsp, n_ix hn]; omega
  have s5 : (Int32.ofInt dp).toNatClampNeg + (Int32.ofInt n).toNatClampNeg ≤ (len1 i1).toNat := by rw [n_ix hdp, n_ix hn]; omega
  have go : ∀ H1 locs1, va_P D vwCl (wsOf cA ad (cp μ k0 i0 sp k1 i1 dp n)) H1 → va_S A s.heap H1 locs1 → W p l e R s m args below meth c H1 locs1 cells slots Z (F0 m (pc + 3) ls (t.map (conc ad od))) := fun H1 locs1 hP1 hS1 => h hwL hwS (cp_wf hwM ha0 ha1) H1 locs1 ls hP1 hS1 hl
  have htc : tc = 0 ∨ tc = 1 ∨ tc = 2 ∨ tc = 3 := by
    have h9 : (List.range 76).all (fun k => match karr k with | some (tc, _) => decide (tc < 4) | none => true) = true := by decide +kernel
    have h8 := List.all_eq_true.mp h9 k0 (List.mem_range.mpr (knd_lt hkd0))
    rw [ha0] at h8
    have := of_decide_eq_true h8
    omega
  rcases htc with rfl | rfl | rfl | rfl
  · refine va_copyi hx hb (by rw [hml]; exact hl.1.symm) hown (hts _ hlk) (hts _ (wM (k := 7) rfl)) (hts _ (wM (k := 8) rfl)) (hts _ (wM (k := 9) rfl)) hK hP (hD μ) hS p0 p1 0 0 hat0 hat1 rfl rfl rfl s1 s2 s3 s4 s5 (fun i _ => rfl) (by omega) hlocs dec (fun H1 locs1 hP1 _ hS1 => go H1 locs1 ?_ hS1)
    rw [n_ix hsp, n_ix hdp, n_ix hn, ← c32] at hP1
    exact he ▸ hP1
  · refine va_copyi hx hb (by rw [hml]; exact hl.1.symm) hown (hts _ hlk) (hts _ (wM (k := 7) rfl)) (hts _ (wM (k := 8) rfl)) (hts _ (wM (k := 9) rfl)) hK hP (hD μ) hS p0 p1 1 1 hat0 hat1 rfl rfl rfl s1 s2 s3 s4 s5 (fun i _ => ?_) (by omega) hlocs dec (fun H1 locs1 hP1 _ hS1 => go H1 locs1 ?_ hS1)
    · have h9 := hwM k0 i0 (((Int32.ofInt sp).toNatClampNeg + i : Nat) : Int)
      unfold rng at h9
      rw [ha0] at h9
      rcases h9 with z | z <;> rw [z] <;> rfl
    · rw [n_ix hsp, n_ix hdp, n_ix hn, ← c32] at hP1
      exact he ▸ hP1
  · refine va_copyi hx hb (by rw [hml]; exact hl.1.symm) hown (hts _ hlk) (hts _ (wM (k := 7) rfl)) (hts _ (wM (k := 8) rfl)) (hts _ (wM (k := 9) rfl)) hK hP (hD μ) hS p0 p1 2 2 hat0 hat1 rfl rfl rfl s1 s2 s3 s4 s5 (fun i _ => ?_) (by omega) hlocs dec (fun H1 locs1 hP1 _ hS1 => go H1 locs1 ?_ hS1)
    · have h9 : -128 ≤ μ k0 i0 (((Int32.ofInt sp).toNatClampNeg + i : Nat) : Int) ∧ μ k0 i0 (((Int32.ofInt sp).toNatClampNeg + i : Nat) : Int) ≤ 127 := (rng_tc ha0).mp (hwM k0 i0 (((Int32.ofInt sp).toNatClampNeg + i : Nat) : Int))
      have h8 : w8 (μ k0 i0 (((Int32.ofInt sp).toNatClampNeg + i : Nat) : Int)) = μ k0 i0 (((Int32.ofInt sp).toNatClampNeg + i : Nat) : Int) := by unfold w8; omega
      rw [← h8, ← n_i2b (show r32 _ by unfold r32; omega)]
      exact pk_fb _
    · rw [n_ix hsp, n_ix hdp, n_ix hn, ← c32] at hP1
      exact he ▸ hP1
  · refine va_copyl hx hb (by rw [hml]; exact hl.1.symm) hown (hts _ hlk) (hts _ (wM (k := 7) rfl)) (hts _ (wM (k := 8) rfl)) (hts _ (wM (k := 9) rfl)) hK hP (hD μ) hS p0 p1 3 3 hat0 hat1 rfl rfl rfl s1 s2 s3 s4 s5 (fun i _ => rfl) (by omega) hlocs dec (fun H1 locs1 hP1 _ hS1 => go H1 locs1 ?_ hS1)
    rw [n_ix hsp, n_ix hdp, n_ix hn, ← c64] at hP1
    exact he ▸ hP1
theorem inv_p {p : Program} {l : Launch} {e : Env} {R : Room} {s : State} {m : MethodId} {args : Array Value} {below : List Frame} {meth : Method} {c : Code} {cells slots : Nat} {Z : State → Prop} {g : aG} {d mid : Nat} {D : va_G} {cA : Nat → ClassId} {ad : Nat → Int → Nat} {od : Nat → Value} {A : Nat → Prop} {q : aMT} (X : Ctx p R s m args c cells slots g d mid D cA ad od A q) {pc idx : Nat} {r : aRs} {L : aLs} {st : List aV} {μ : aM} {H : Heap} {locs : List Loc} {ls : Array Slot} (h : prims r.1 st μ (fun t μ' => Go p l e R s m args below meth c cells slots Z D cA ad od A q (pc + 3) L t μ'))
    (ok : (match r.1 with | 1000 => decide (lw_tbl[r.2.2.1]? = some (Jvm.Cond.methodLink q.1 idx Lib.Math.max.name)) | 1001 => decide (lw_tbl[r.2.2.1]? = some (Jvm.Cond.methodLink q.1 idx Lib.Math.min.name)) | 1002 => decide (lw_tbl[r.2.2.1]? = some (Jvm.Cond.methodLink q.1 idx Lib.Math.abs.name)) | 1003 => decide (lw_tbl[r.2.2.1]? = some (Jvm.Cond.methodLink q.1 idx arraycopyName)) | _ => true) = true)
    (hwL : wfL L) (hwS : wfS st) (hwM : wfM μ) (hP : va_P D vwCl (wsOf cA ad μ) H) (hS : va_S A s.heap H locs) (hl : lv_has ls q.2.2.2.1 (lvOf ad od 0 L)) (dec : decode q.2.2.1 pc = .ok (.invokestatic idx, 3)) : W p l e R s m args below meth c H locs cells slots Z (F0 m pc ls (st.map (conc ad od))) := by
  obtain ⟨hq, hx, hb, hml, hown, hts, hK, hF, hD, hA, hod, hfr, hlo, hce, hsl, hg⟩ := id X
  have hrm : ∀ t : List aV, t.length ≤ 4 → ((t.map (conc ad od)).map fun v => v.category).sum + 13 ≤ R.locals := fun t ht => by
    have h1 := cats (t := t.map (conc ad od)) (by rw [List.length_map]; exact ht)
    omega
  unfold prims at h
  split at h
  · rename_i e9
    rw [e9] at ok
    obtain ⟨x, y, t, rfl, ht4, h⟩ := op2_i h
    obtain ⟨hy, ht⟩ := wfS_c hwS
    obtain ⟨hx9, ht⟩ := wfS_c ht
    refine va_mmax hx hb (by rw [hml]; exact hl.1.symm) hown (hts _ (tw_in (of_decide_eq_true ok) rfl)) (hts _ (wM (k := 0) rfl)) (hts _ (wM (k := 3) rfl)) (hts _ (wM (k := 4) rfl)) (by omega) (hrm t ht4) hce hsl dec ?_
    rw [n_max hx9 hy]
    exact h hwL (wfS_k (r_max hx9 hy) ht) hwM H locs ls hP hS hl
  · rename_i e9
    rw [e9] at ok
    obtain ⟨x, y, t, rfl, ht4, h⟩ := op2_i h
    obtain ⟨hy, ht⟩ := wfS_c hwS
    obtain ⟨hx9, ht⟩ := wfS_c ht
    refine va_mmin hx hb (by rw [hml]; exact hl.1.symm) hown (hts _ (tw_in (of_decide_eq_true ok) rfl)) (hts _ (wM (k := 1) rfl)) (hts _ (wM (k := 3) rfl)) (hts _ (wM (k := 5) rfl)) (by omega) (hrm t ht4) hce hsl dec ?_
    rw [n_min hx9 hy]
    exact h hwL (wfS_k (r_min hx9 hy) ht) hwM H locs ls hP hS hl
  · rename_i e9
    rw [e9] at ok
    obtain ⟨x, t, rfl, ht4, h⟩ := op1_i h
    obtain ⟨hx9, ht⟩ := wfS_c hwS
    refine va_mabs hx hb (by rw [hml]; exact hl.1.symm) hown (hts _ (tw_in (of_decide_eq_true ok) rfl)) (hts _ (wM (k := 2) rfl)) (hts _ (wM (k := 3) rfl)) (hts _ (wM (k := 6) rfl)) (by omega) (hrm t ht4) hce hsl dec ?_
    rw [n_abs hx9]
    exact h hwL (wfS_k (r_abs hx9) ht) hwM H locs ls hP hS hl
  · rename_i e9
    rw [e9] at ok
    split at h
    · rename_i n dp k1 i1 sp k0 i0 t
      split at h
      · rename_i tc0 len0 tc1 len1 ha0 ha1
        obtain ⟨h1, h2, h3, h4⟩ := bif_i h
        obtain rfl : tc0 = tc1 := by simpa using h1
        obtain ⟨b1, ht⟩ := wfS_c hwS
        obtain ⟨b2, ht⟩ := wfS_c ht
        obtain ⟨b3, ht⟩ := wfS_c ht
        obtain ⟨b4, ht⟩ := wfS_c ht
        obtain ⟨b5, ht⟩ := wfS_c ht
        exact copy_at X ha0 ha1 h2 h3 h4 b5 b3 b4 b2 b1 (tw_in (of_decide_eq_true ok) rfl) hwL ht hwM hP hS hl dec
      · exact h.elim
    · exact h.elim
  · exact h.elim
set_option maxHeartbeats 16000000 in
set_option maxRecDepth 4000 in
theorem sound_1 {p : Program} {l : Launch} {e : Env} {R : Room} {s : State} {m : MethodId} {args : Array Value} {below : List Frame} {meth : Method} {c : Code} {cells slots : Nat} {Z : State → Prop} {g : aG} {d mid : Nat} {D : va_G} {cA : Nat → ClassId} {ad : Nat → Int → Nat} {od : Nat → Value} {A : Nat → Prop} {q : aMT} (X : Ctx p R s m args c cells slots g d mid D cA ad od A q) (hCal : CalS l g d) {pc : Nat} {i : Instr} {n : Nat} {r : aRs} (hlk : lkp pc (codeOf mid) = some (i, n, r)) {L : aLs} {st : List aV} {μ : aM} (h : wp1 g (Cal g d) (rtOf mid) i n r pc L st μ (fun pc' L' st' μ' => Go p l e R s m args below meth c cells slots Z D cA ad od A q pc' L' st' μ') (fun rv μ' => Rg p l e R s m args below meth c cells slots Z D cA ad od A q rv μ')) : Go p l e R s m args below meth c cells slots Z D cA ad od A q pc L st μ := by
  obtain ⟨hq, hx, hb, hml, hown, hts, hK, hF, hD, hA, hod, hfr, hlo, hce, hsl, hg⟩ := id X
  obtain ⟨dec, ok, okp, hrt⟩ := ok_at (l := l) (e := e) (below := below) (meth := meth) (Z := Z) X hlk
  intro hwL hwS hwM H locs ls hP hS hl
  cases i
  all_goals simp only [wp1] at h
  all_goals try exact h.elim
  all_goals simp only [okI] at ok
  case iload_n k =>
    replace h := ldI_i h
    obtain ⟨x, hn, h⟩ := h
    obtain rfl : n = 1 := by simpa using ok
    have hv := hwL _ _ hn
    have hg := lv_get hl hn
    exact lv_iload_n hx hb dec rfl hg (h hwL (wfS_k hv hwS) hwM H locs ls hP hS hl)
  case iload k =>
    replace h := ldI_i h
    obtain ⟨x, hn, h⟩ := h
    obtain rfl : n = 2 := by simpa using ok
    have hv := hwL _ _ hn
    have hg := lv_get hl hn
    exact lv_iload hx hb dec hg (h hwL (wfS_k hv hwS) hwM H locs ls hP hS hl)
  case lload_n k =>
    replace h := ldL_i h
    obtain ⟨x, hn, h⟩ := h
    obtain rfl : n = 1 := by simpa using ok
    have hv := hwL _ _ hn
    have hg := lv_get hl hn
    exact lv_lload_n hx hb dec rfl hg (h hwL (wfS_k hv hwS) hwM H locs ls hP hS hl)
  case lload k =>
    replace h := ldL_i h
    obtain ⟨x, hn, h⟩ := h
    obtain rfl : n = 2 := by simpa using ok
    have hv := hwL _ _ hn
    have hg := lv_get hl hn
    exact lv_lload hx hb dec hg (h hwL (wfS_k hv hwS) hwM H locs ls hP hS hl)
  case aload_n k =>
    replace h := ldR_i h
    obtain ⟨x, hn, h⟩ := h
    obtain rfl : n = 1 := by simpa using ok
    have hv := hwL _ _ hn
    have hg := lv_get hl hn
    rcases x with y | j
    · exact lv_aload_n hx hb dec rfl hg (h hwL (wfS_k hv hwS) hwM H locs ls hP hS hl)
    · rcases hod j with z | ⟨z, hz⟩
      · have hg' : ls[(k.val : Nat)]? = some (Slot.val Value.null) := by rw [hg]; show some (Slot.val (od j)) = _; rw [z]
        refine lv_aload_nN hx hb dec rfl hg' ?_
        have := h hwL (wfS_k hv hwS) hwM H locs ls hP hS hl
        rw [List.map_cons, show conc ad od (Sum.inr (Sum.inr (Sum.inr j))) = .null from z] at this
        exact this
      · have hg' : ls[(k.val : Nat)]? = some (Slot.val (Value.ref z)) := by rw [hg]; show some (Slot.val (od j)) = _; rw [hz]
        refine lv_aload_n hx hb dec rfl hg' ?_
        have := h hwL (wfS_k hv hwS) hwM H locs ls hP hS hl
        rw [List.map_cons, show conc ad od (Sum.inr (Sum.inr (Sum.inr j))) = .ref z from hz] at this
        exact this
  case aload k =>
    replace h := ldR_i h
    obtain ⟨x, hn, h⟩ := h
    obtain rfl : n = 2 := by simpa using ok
    have hv := hwL _ _ hn
    have hg := lv_get hl hn
    rcases x with y | j
    · exact lv_aload hx hb dec hg (h hwL (wfS_k hv hwS) hwM H locs ls hP hS hl)
    · rcases hod j with z | ⟨z, hz⟩
      · have hg' : ls[k]? = some (Slot.val Value.null) := by rw [hg]; show some (Slot.val (od j)) = _; rw [z]
        refine lv_aloadN hx hb dec hg' ?_
        have := h hwL (wfS_k hv hwS) hwM H locs ls hP hS hl
        rw [List.map_cons, show conc ad od (Sum.inr (Sum.inr (Sum.inr j))) = .null from z] at this
        exact this
      · have hg' : ls[k]? = some (Slot.val (Value.ref z)) := by rw [hg]; show some (Slot.val (od j)) = _; rw [hz]
        refine lv_aload hx hb dec hg' ?_
        have := h hwL (wfS_k hv hwS) hwM H locs ls hP hS hl
        rw [List.map_cons, show conc ad od (Sum.inr (Sum.inr (Sum.inr j))) = .ref z from hz] at this
        exact this
  case istore_n k =>
    replace h := op1_i h
    obtain ⟨x, t, rfl, h⟩ := h
    simp only [Bool.and_eq_true, decide_eq_true_eq, beq_iff_eq] at ok
    obtain ⟨rfl, hk⟩ := ok
    obtain ⟨hv, ht⟩ := wfS_c hwS
    exact lv_istore_n hx hb dec rfl hl hk rfl (fun ls9 h9 => h (st1_wf hwL hv) ht hwM H locs ls9 hP hS (lv_s1 hod h9))
  case istore k =>
    replace h := op1_i h
    obtain ⟨x, t, rfl, h⟩ := h
    simp only [Bool.and_eq_true, decide_eq_true_eq, beq_iff_eq] at ok
    obtain ⟨rfl, hk⟩ := ok
    obtain ⟨hv, ht⟩ := wfS_c hwS
    exact lv_istore hx hb dec hl hk rfl (fun ls9 h9 => h (st1_wf hwL hv) ht hwM H locs ls9 hP hS (lv_s1 hod h9))
  case astore_n k =>
    replace h := opQ_i h
    obtain ⟨x, t, rfl, h⟩ := h
    simp only [Bool.and_eq_true, decide_eq_true_eq, beq_iff_eq] at ok
    obtain ⟨rfl, hk⟩ := ok
    obtain ⟨hv, ht⟩ := wfS_c hwS
    rcases x with y | j
    · exact lv_astore_n hx hb dec rfl hl hk rfl (fun ls9 h9 => h (st1_wf hwL hv) ht hwM H locs ls9 hP hS (lv_s1 hod h9))
    · rcases hod j with z | ⟨z, hz⟩
      · rw [List.map_cons, show conc ad od (Sum.inr (Sum.inr (Sum.inr j))) = .null from z]
        refine lv_astore_nN hx hb dec rfl hl hk rfl (fun ls9 h9 => h (st1_wf hwL hv) ht hwM H locs ls9 hP hS (lv_s1 hod ?_))
        rw [show conc ad od (Sum.inr (Sum.inr (Sum.inr j))) = .null from z]; exact h9
      · rw [List.map_cons, show conc ad od (Sum.inr (Sum.inr (Sum.inr j))) = .ref z from hz]
        refine lv_astore_n hx hb dec rfl hl hk rfl (fun ls9 h9 => h (st1_wf hwL hv) ht hwM H locs ls9 hP hS (lv_s1 hod ?_))
        rw [show conc ad od (Sum.inr (Sum.inr (Sum.inr j))) = .ref z from hz]; exact h9
  case astore k =>
    replace h := opQ_i h
    obtain ⟨x, t, rfl, h⟩ := h
    simp only [Bool.and_eq_true, decide_eq_true_eq, beq_iff_eq] at ok
    obtain ⟨rfl, hk⟩ := ok
    obtain ⟨hv, ht⟩ := wfS_c hwS
    rcases x with y | j
    · exact lv_astore hx hb dec hl hk rfl (fun ls9 h9 => h (st1_wf hwL hv) ht hwM H locs ls9 hP hS (lv_s1 hod h9))
    · rcases hod j with z | ⟨z, hz⟩
      · rw [List.map_cons, show conc ad od (Sum.inr (Sum.inr (Sum.inr j))) = .null from z]
        refine lv_astoreN hx hb dec hl hk rfl (fun ls9 h9 => h (st1_wf hwL hv) ht hwM H locs ls9 hP hS (lv_s1 hod ?_))
        rw [show conc ad od (Sum.inr (Sum.inr (Sum.inr j))) = .null from z]; exact h9
      · rw [List.map_cons, show conc ad od (Sum.inr (Sum.inr (Sum.inr j))) = .ref z from hz]
        refine lv_astore hx hb dec hl hk rfl (fun ls9 h9 => h (st1_wf hwL hv) ht hwM H locs ls9 hP hS (lv_s1 hod ?_))
        rw [show conc ad od (Sum.inr (Sum.inr (Sum.inr j))) = .ref z from hz]; exact h9
  case lstore_n k =>
    replace h := opL1_i h
    obtain ⟨x, t, rfl, h⟩ := h
    simp only [Bool.and_eq_true, decide_eq_true_eq, beq_iff_eq] at ok
    obtain ⟨rfl, hk⟩ := ok
    obtain ⟨hv, ht⟩ := wfS_c hwS
    exact lv_lstore_n hx hb dec rfl hl hk rfl (fun ls9 h9 => h (st2_wf hwL hv) ht hwM H locs ls9 hP hS (lv_s2 hod h9))
  case lstore k =>
    replace h := opL1_i h
    obtain ⟨x, t, rfl, h⟩ := h
    simp only [Bool.and_eq_true, decide_eq_true_eq, beq_iff_eq] at ok
    obtain ⟨rfl, hk⟩ := ok
    obtain ⟨hv, ht⟩ := wfS_c hwS
    exact lv_lstore hx hb dec hl hk rfl (fun ls9 h9 => h (st2_wf hwL hv) ht hwM H locs ls9 hP hS (lv_s2 hod h9))
  case iconst v =>
    simp only [Bool.and_eq_true, decide_eq_true_eq, beq_iff_eq] at ok
    obtain ⟨⟨rfl, h1⟩, h2⟩ := ok
    exact lv_iconst hx hb dec rfl (h hwL (wfS_k (show r32 v by unfold r32; omega) hwS) hwM H locs ls hP hS hl)
  case bipush v =>
    simp only [Bool.and_eq_true, decide_eq_true_eq, beq_iff_eq] at ok
    obtain ⟨⟨rfl, h1⟩, h2⟩ := ok
    exact lv_bipush hx hb dec (n_imm8 h1 h2) (h hwL (wfS_k (show r32 v by unfold r32; omega) hwS) hwM H locs ls hP hS hl)
  case sipush v =>
    simp only [Bool.and_eq_true, decide_eq_true_eq, beq_iff_eq] at ok
    obtain ⟨⟨rfl, h1⟩, h2⟩ := ok
    exact lv_sipush hx hb dec (n_imm16 h1 h2) (h hwL (wfS_k (show r32 v by unfold r32; omega) hwS) hwM H locs ls hP hS hl)
  case lconst v =>
    obtain rfl : n = 1 := by simpa using ok
    exact lv_lconst hx hb dec (by rfl) (h hwL (wfS_k (show r64 _ by unfold r64; omega) hwS) hwM H locs ls hP hS hl)
  case ldc idx =>
    simp only [Bool.and_eq_true, beq_iff_eq] at ok
    obtain ⟨rfl, ok⟩ := ok
    cases hb0 : r.1 == 0
    · rw [hb0] at h ok
      simp only [cond_false, Bool.and_eq_true, decide_eq_true_eq, beq_iff_eq] at h ok
      obtain ⟨⟨h1, h2⟩, h3⟩ := ok
      have hR := (hF.2.2.2.2.2.1 r.2.1 h2).2.2.2.2
      have e1 : strK.getD r.2.1 0 = idx := by unfold strK; rw [List.getD_eq_getElem?_getD, h3]; rfl
      rw [e1] at hR
      exact va_ldcS hx hb (own := "PealOfExcuses$Reader") (by rw [← h1]; exact hown) hR dec (h hwL (wfS_k (show refOk 101 _ by unfold refOk; exact ⟨Int.natCast_nonneg _, by show (r.2.1 : Int) < 6; omega⟩) hwS) hwM H locs ls hP hS hl)
    · rw [hb0] at h ok
      simp only [cond_true, Bool.and_eq_true, decide_eq_true_eq] at h ok
      obtain ⟨⟨h1, h2⟩, h3⟩ := ok
      exact lv_ldc hx hb hown (hts _ (tw_in h1 rfl)) dec (h hwL (wfS_k (show r32 _ by unfold r32; omega) hwS) hwM H locs ls hP hS hl)
  case ldc2_w idx =>
    simp only [Bool.and_eq_true, decide_eq_true_eq, beq_iff_eq] at ok
    obtain ⟨⟨⟨rfl, h1⟩, h2⟩, h3⟩ := ok
    exact lv_ldc2 hx hb hown (hts _ (tw_in h1 rfl)) dec (h hwL (wfS_k (show r64 _ by unfold r64; omega) hwS) hwM H locs ls hP hS hl)
  case iadd =>
    replace h := op2_i h
    obtain ⟨x, y, t, rfl, h⟩ := h
    obtain rfl : n = 1 := by simpa using ok
    obtain ⟨hy, ht⟩ := wfS_c hwS
    obtain ⟨hx9, ht⟩ := wfS_c ht
    refine lv_iadd hx hb dec ?_
    rw [n_add]
    exact h hwL (wfS_k (w32_r _) ht) hwM H locs ls hP hS hl
  case isub =>
    replace h := op2_i h
    obtain ⟨x, y, t, rfl, h⟩ := h
    obtain rfl : n = 1 := by simpa using ok
    obtain ⟨hy, ht⟩ := wfS_c hwS
    obtain ⟨hx9, ht⟩ := wfS_c ht
    refine lv_isub hx hb dec ?_
    rw [n_sub]
    exact h hwL (wfS_k (w32_r _) ht) hwM H locs ls hP hS hl
  case imul =>
    replace h := op2_i h
    obtain ⟨x, y, t, rfl, h⟩ := h
    obtain rfl : n = 1 := by simpa using ok
    obtain ⟨hy, ht⟩ := wfS_c hwS
    obtain ⟨hx9, ht⟩ := wfS_c ht
    refine lv_imul hx hb dec ?_
    rw [n_mul hx9 hy]
    exact h hwL (wfS_k (w32_r _) ht) hwM H locs ls hP hS hl
  case idiv =>
    replace h := op2_i h
    obtain ⟨x, y, t, rfl, hne, h⟩ := h
    obtain rfl : n = 1 := by simpa using ok
    obtain ⟨hy, ht⟩ := wfS_c hwS
    obtain ⟨hx9, ht⟩ := wfS_c ht
    refine lv_idiv hx hb dec (fun z => hne ((n_eq hy r32_0).mp z)) ?_
    rw [n_div hx9 hy]
    exact h hwL (wfS_k (w32_r _) ht) hwM H locs ls hP hS hl
  case irem =>
    replace h := op2_i h
    obtain ⟨x, y, t, rfl, hne, h⟩ := h
    obtain rfl : n = 1 := by simpa using ok
    obtain ⟨hy, ht⟩ := wfS_c hwS
    obtain ⟨hx9, ht⟩ := wfS_c ht
    refine lv_irem hx hb dec (fun z => hne ((n_eq hy r32_0).mp z)) ?_
    rw [n_rem hx9 hy]
    exact h hwL (wfS_k (w32_r _) ht) hwM H locs ls hP hS hl
  case ineg =>
    replace h := op1_i h
    obtain ⟨x, t, rfl, h⟩ := h
    obtain rfl : n = 1 := by simpa using ok
    obtain ⟨hy, ht⟩ := wfS_c hwS
    refine lv_ineg hx hb dec ?_
    rw [n_neg]
    exact h hwL (wfS_k (w32_r _) ht) hwM H locs ls hP hS hl
  case ishl =>
    replace h := op2_i h
    obtain ⟨x, y, t, rfl, h⟩ := h
    obtain rfl : n = 1 := by simpa using ok
    obtain ⟨hy, ht⟩ := wfS_c hwS
    obtain ⟨hx9, ht⟩ := wfS_c ht
    refine lv_ishl hx hb dec ?_
    have := h hwL (wfS_k (n_rng _) ht) hwM H locs ls hP hS hl
    rw [List.map_cons, show conc ad od (aI (b_shl x y)) = .int _ from congrArg Value.int (n_of _)] at this
    exact this
  case ishr =>
    replace h := op2_i h
    obtain ⟨x, y, t, rfl, h⟩ := h
    obtain rfl : n = 1 := by simpa using ok
    obtain ⟨hy, ht⟩ := wfS_c hwS
    obtain ⟨hx9, ht⟩ := wfS_c ht
    refine lv_ishr hx hb dec ?_
    have := h hwL (wfS_k (n_rng _) ht) hwM H locs ls hP hS hl
    rw [List.map_cons, show conc ad od (aI (b_shr x y)) = .int _ from congrArg Value.int (n_of _)] at this
    exact this
  case iand =>
    replace h := op2_i h
    obtain ⟨x, y, t, rfl, h⟩ := h
    obtain rfl : n = 1 := by simpa using ok
    obtain ⟨hy, ht⟩ := wfS_c hwS
    obtain ⟨hx9, ht⟩ := wfS_c ht
    refine lv_iand hx hb dec ?_
    have := h hwL (wfS_k (n_rng _) ht) hwM H locs ls hP hS hl
    rw [List.map_cons, show conc ad od (aI (b_and x y)) = .int _ from congrArg Value.int (n_of _)] at this
    exact this
  case ior =>
    replace h := op2_i h
    obtain ⟨x, y, t, rfl, h⟩ := h
    obtain rfl : n = 1 := by simpa using ok
    obtain ⟨hy, ht⟩ := wfS_c hwS
    obtain ⟨hx9, ht⟩ := wfS_c ht
    refine lv_ior hx hb dec ?_
    have := h hwL (wfS_k (n_rng _) ht) hwM H locs ls hP hS hl
    rw [List.map_cons, show conc ad od (aI (b_or x y)) = .int _ from congrArg Value.int (n_of _)] at this
    exact this
  case ixor =>
    replace h := op2_i h
    obtain ⟨x, y, t, rfl, h⟩ := h
    obtain rfl : n = 1 := by simpa using ok
    obtain ⟨hy, ht⟩ := wfS_c hwS
    obtain ⟨hx9, ht⟩ := wfS_c ht
    refine lv_ixor hx hb dec ?_
    have := h hwL (wfS_k (n_rng _) ht) hwM H locs ls hP hS hl
    rw [List.map_cons, show conc ad od (aI (b_xor x y)) = .int _ from congrArg Value.int (n_of _)] at this
    exact this
  case lshl =>
    replace h := opLI_i h
    obtain ⟨x, y, t, rfl, h⟩ := h
    obtain rfl : n = 1 := by simpa using ok
    obtain ⟨hy, ht⟩ := wfS_c hwS
    obtain ⟨hx9, ht⟩ := wfS_c ht
    exact lv_lshl hx hb dec (n_ofL _).symm (h hwL (wfS_k (n_rngL _) ht) hwM H locs ls hP hS hl)
  case lshr =>
    replace h := opLI_i h
    obtain ⟨x, y, t, rfl, h⟩ := h
    obtain rfl : n = 1 := by simpa using ok
    obtain ⟨hy, ht⟩ := wfS_c hwS
    obtain ⟨hx9, ht⟩ := wfS_c ht
    exact lv_lshr hx hb dec (n_ofL _).symm (h hwL (wfS_k (n_rngL _) ht) hwM H locs ls hP hS hl)
  case land =>
    replace h := opL2_i h
    obtain ⟨x, y, t, rfl, h⟩ := h
    obtain rfl : n = 1 := by simpa using ok
    obtain ⟨hy, ht⟩ := wfS_c hwS
    obtain ⟨hx9, ht⟩ := wfS_c ht
    refine lv_land hx hb dec ?_
    have := h hwL (wfS_k (n_rngL _) ht) hwM H locs ls hP hS hl
    rw [List.map_cons, show conc ad od (aL (l_and x y)) = .long _ from congrArg Value.long (n_ofL _)] at this
    exact this
  case lor =>
    replace h := opL2_i h
    obtain ⟨x, y, t, rfl, h⟩ := h
    obtain rfl : n = 1 := by simpa using ok
    obtain ⟨hy, ht⟩ := wfS_c hwS
    obtain ⟨hx9, ht⟩ := wfS_c ht
    refine lv_lor hx hb dec ?_
    have := h hwL (wfS_k (n_rngL _) ht) hwM H locs ls hP hS hl
    rw [List.map_cons, show conc ad od (aL (l_or x y)) = .long _ from congrArg Value.long (n_ofL _)] at this
    exact this
  case lxor =>
    replace h := opL2_i h
    obtain ⟨x, y, t, rfl, h⟩ := h
    obtain rfl : n = 1 := by simpa using ok
    obtain ⟨hy, ht⟩ := wfS_c hwS
    obtain ⟨hx9, ht⟩ := wfS_c ht
    refine lv_lxor hx hb dec ?_
    have := h hwL (wfS_k (n_rngL _) ht) hwM H locs ls hP hS hl
    rw [List.map_cons, show conc ad od (aL (l_xor x y)) = .long _ from congrArg Value.long (n_ofL _)] at this
    exact this
  case lcmp =>
    replace h := opL2_i h
    obtain ⟨x, y, t, rfl, h⟩ := h
    obtain rfl : n = 1 := by simpa using ok
    obtain ⟨hy, ht⟩ := wfS_c hwS
    obtain ⟨hx9, ht⟩ := wfS_c ht
    refine W.lcmp hx hb dec ?_
    rw [n_cmp hx9 hy]
    exact h hwL (wfS_k (r_cmp _ _) ht) hwM H locs ls hP hS hl
  case i2l =>
    replace h := op1_i h
    obtain ⟨x, t, rfl, h⟩ := h
    obtain rfl : n = 1 := by simpa using ok
    obtain ⟨hy, ht⟩ := wfS_c hwS
    exact lv_i2l hx hb dec (n_i2l hy) (h hwL (wfS_k (show r64 x by have h9 : r32 x := hy; unfold r32 at h9; unfold r64; omega) ht) hwM H locs ls hP hS hl)
  case l2i =>
    replace h := opL1_i h
    obtain ⟨x, t, rfl, h⟩ := h
    obtain rfl : n = 1 := by simpa using ok
    obtain ⟨hy, ht⟩ := wfS_c hwS
    exact lv_l2i hx hb dec (n_l2i hy) (h hwL (wfS_k (w32_r _) ht) hwM H locs ls hP hS hl)
  case i2b =>
    replace h := op1_i h
    obtain ⟨x, t, rfl, h⟩ := h
    obtain rfl : n = 1 := by simpa using ok
    obtain ⟨hy, ht⟩ := wfS_c hwS
    exact lv_i2b hx hb dec (n_i2b hy) (h hwL (wfS_k (show r32 _ by unfold r32 w8; omega) ht) hwM H locs ls hP hS hl)
  case i2s =>
    replace h := op1_i h
    obtain ⟨x, t, rfl, h⟩ := h
    obtain rfl : n = 1 := by simpa using ok
    obtain ⟨hy, ht⟩ := wfS_c hwS
    exact lv_i2s hx hb dec (n_i2s hy) (h hwL (wfS_k (show r32 _ by unfold r32 w16; omega) ht) hwM H locs ls hP hS hl)
  case i2c =>
    replace h := op1_i h
    obtain ⟨x, t, rfl, h⟩ := h
    obtain rfl : n = 1 := by simpa using ok
    obtain ⟨hy, ht⟩ := wfS_c hwS
    exact lv_i2c hx hb dec (n_i2c x) (h hwL (wfS_k (show r32 _ by unfold r32; omega) ht) hwM H locs ls hP hS hl)
  case dup =>
    obtain rfl : n = 1 := by simpa using ok
    split at h
    · rename_i x t
      exact lv_dup hx hb dec rfl (h hwL (wfS_k (wfS_c hwS).1 hwS) hwM H locs ls hP hS hl)
    · rename_i x t
      exact lv_dup hx hb dec (cat_isLg hod rfl) (h hwL (wfS_k (wfS_c hwS).1 hwS) hwM H locs ls hP hS hl)
    · exact h.elim
  case pop =>
    replace h := op1_i h
    obtain ⟨x, t, rfl, h⟩ := h
    obtain rfl : n = 1 := by simpa using ok
    exact lv_pop hx hb dec rfl (h hwL (wfS_c hwS).2 hwM H locs ls hP hS hl)
  case iinc k v =>
    replace h := ldI_i h
    obtain ⟨x, hn, h⟩ := h
    simp only [Bool.and_eq_true, decide_eq_true_eq, beq_iff_eq] at ok
    obtain ⟨rfl, hk⟩ := ok
    obtain ⟨j, hj⟩ := List.getElem?_of_mem (lv_mem (ad := ad) (od := od) (i0 := 0) (q := (k, conc ad od (Sum.inl x))) |>.mpr ⟨k, _, by simp, hn, rfl⟩)
    exact lv_iinc hx hb dec hl hj (n_add x v) hk rfl (fun ls9 h9 => h (st1_wf hwL (w32_r _)) hwS hwM H locs ls9 hP hS (lv_s1 (v := Sum.inl (w32 (x + v))) hod h9))
  case goto off =>
    simp only [Bool.and_eq_true, decide_eq_true_eq, beq_iff_eq] at ok
    obtain ⟨rfl, h0⟩ := ok
    exact lv_goto hx hb dec (by unfold tgt; omega) (h hwL hwS hwM H locs ls hP hS hl)
  case ifCond cd off =>
    replace h := op1_i h
    obtain ⟨x, t, rfl, h⟩ := h
    simp only [Bool.and_eq_true, decide_eq_true_eq, beq_iff_eq] at ok
    obtain ⟨rfl, h0⟩ := ok
    obtain ⟨hx9, ht⟩ := wfS_c hwS
    have hy := r32_0
    have ht9 : (pc : Int) + off = ((tgt pc off : Nat) : Int) := by unfold tgt; omega
    cases cd
    · exact lv_if_eq hx hb dec ht9 (fun z => h.1 ((n_eq hx9 hy).mp z) hwL ht hwM H locs ls hP hS hl) (fun z => h.2 (fun e9 => z ((n_eq hx9 hy).mpr e9)) hwL ht hwM H locs ls hP hS hl)
    · exact lv_if_ne hx hb dec ht9 (fun z => h.1 (fun e9 => z ((n_eq hx9 hy).mpr e9)) hwL ht hwM H locs ls hP hS hl) (fun z => h.2 ((n_eq hx9 hy).mp z) hwL ht hwM H locs ls hP hS hl)
    · exact lv_if_lt hx hb dec ht9 (fun z => h.1 ((n_lt hx9 hy).mp z) hwL ht hwM H locs ls hP hS hl) (fun z => h.2 (Int.not_lt.mp (fun e9 => z ((n_lt hx9 hy).mpr e9))) hwL ht hwM H locs ls hP hS hl)
    · exact lv_if_ge hx hb dec ht9 (fun z => h.1 ((n_le hy hx9).mp z) hwL ht hwM H locs ls hP hS hl) (fun z => h.2 (Int.not_le.mp (fun e9 => z ((n_le hy hx9).mpr e9))) hwL ht hwM H locs ls hP hS hl)
    · exact lv_if_gt hx hb dec ht9 (fun z => h.1 ((n_lt hy hx9).mp z) hwL ht hwM H locs ls hP hS hl) (fun z => h.2 (Int.not_lt.mp (fun e9 => z ((n_lt hy hx9).mpr e9))) hwL ht hwM H locs ls hP hS hl)
    · exact lv_if_le hx hb dec ht9 (fun z => h.1 ((n_le hx9 hy).mp z) hwL ht hwM H locs ls hP hS hl) (fun z => h.2 (Int.not_le.mp (fun e9 => z ((n_le hx9 hy).mpr e9))) hwL ht hwM H locs ls hP hS hl)
  case if_icmp cd off =>
    replace h := op2_i h
    obtain ⟨x, y, t, rfl, h⟩ := h
    simp only [Bool.and_eq_true, decide_eq_true_eq, beq_iff_eq] at ok
    obtain ⟨rfl, h0⟩ := ok
    obtain ⟨hy, ht⟩ := wfS_c hwS
    obtain ⟨hx9, ht⟩ := wfS_c ht
    have ht9 : (pc : Int) + off = ((tgt pc off : Nat) : Int) := by unfold tgt; omega
    cases cd
    · exact lv_icmp_eq hx hb dec ht9 (fun z => h.1 ((n_eq hx9 hy).mp z) hwL ht hwM H locs ls hP hS hl) (fun z => h.2 (fun e9 => z ((n_eq hx9 hy).mpr e9)) hwL ht hwM H locs ls hP hS hl)
    · exact lv_icmp_ne hx hb dec ht9 (fun z => h.1 (fun e9 => z ((n_eq hx9 hy).mpr e9)) hwL ht hwM H locs ls hP hS hl) (fun z => h.2 ((n_eq hx9 hy).mp z) hwL ht hwM H locs ls hP hS hl)
    · exact lv_icmp_lt hx hb dec ht9 (fun z => h.1 ((n_lt hx9 hy).mp z) hwL ht hwM H locs ls hP hS hl) (fun z => h.2 (Int.not_lt.mp (fun e9 => z ((n_lt hx9 hy).mpr e9))) hwL ht hwM H locs ls hP hS hl)
    · exact lv_icmp_ge hx hb dec ht9 (fun z => h.1 ((n_le hy hx9).mp z) hwL ht hwM H locs ls hP hS hl) (fun z => h.2 (Int.not_le.mp (fun e9 => z ((n_le hy hx9).mpr e9))) hwL ht hwM H locs ls hP hS hl)
    · exact lv_icmp_gt hx hb dec ht9 (fun z => h.1 ((n_lt hy hx9).mp z) hwL ht hwM H locs ls hP hS hl) (fun z => h.2 (Int.not_lt.mp (fun e9 => z ((n_lt hy hx9).mpr e9))) hwL ht hwM H locs ls hP hS hl)
    · exact lv_icmp_le hx hb dec ht9 (fun z => h.1 ((n_le hx9 hy).mp z) hwL ht hwM H locs ls hP hS hl) (fun z => h.2 (Int.not_le.mp (fun e9 => z ((n_le hx9 hy).mpr e9))) hwL ht hwM H locs ls hP hS hl)
  case tableswitch df lo hi offs =>
    replace h := op1_i h
    obtain ⟨x, t, rfl, h⟩ := h
    simp only [Bool.and_eq_true, decide_eq_true_eq, List.all_eq_true] at ok
    obtain ⟨⟨h0, h1⟩, h2⟩ := ok
    obtain ⟨hx9, ht⟩ := wfS_c hwS
    rcases swT_i h with ⟨j, off, e1, e2, h⟩ | ⟨e1, h⟩
    · refine lv_tableIn hx hb dec (by rw [n_tr hx9]; omega) (by rw [n_tr hx9]; have := (List.getElem?_eq_some_iff.mp e1).1; omega) (off := off) (tgt := tgt pc off) (by rw [n_tr hx9, ← Array.getElem?_toList, show (x - lo).toNat = j by omega]; exact e1) (by have := h1 _ (List.mem_of_getElem? e1); unfold tgt; omega) (h hwL ht hwM H locs ls hP hS hl)
    · refine lv_tableOut hx hb dec (by rw [n_tr hx9]; omega) (tgt := tgt pc df) (by unfold tgt; omega) (h hwL ht hwM H locs ls hP hS hl)
  case lookupswitch df ps =>
    replace h := op1_i h
    obtain ⟨x, t, rfl, h⟩ := h
    simp only [Bool.and_eq_true, decide_eq_true_eq, List.all_eq_true] at ok
    obtain ⟨⟨h0, h1⟩, h2⟩ := ok
    obtain ⟨hx9, ht⟩ := wfS_c hwS
    replace h := swL_i (K := fun off => Go p l e R s m args below meth c cells slots Z D cA ad od A q (tgt pc off) L t μ) (df := df) h
    obtain ⟨off, e1, e2, h⟩ := h
    have h3 : (0 : Int) ≤ (pc : Int) + off := by
      rcases e1 with e1 | ⟨q9, e1, e3⟩
      · rw [e1]; exact h0
      · rw [← e3]; exact h1 _ e1
    exact lv_lookup hx hb dec (by rw [List.all_eq_true]; intro x hx; simpa using h2 x hx) (by rw [n_tr hx9, e2]) (by unfold tgt; omega) (h hwL ht hwM H locs ls hP hS hl)
  case iaload =>
    replace h := opIR_i h
    obtain ⟨k, a, i9, t, rfl, h⟩ := h
    obtain rfl : n = 1 := by simpa using ok
    obtain ⟨hi9, ht⟩ := wfS_c hwS
    obtain ⟨hr9, ht⟩ := wfS_c ht
    obtain ⟨ni, h⟩ := elds_i (g := g) h
    rcases h with ⟨hk, len, ha, hin, h⟩ | ⟨hk, hf9, hin, h⟩
    · obtain ⟨p9, hp9⟩ := ids_at hk hr9
      obtain ⟨n9, hkd⟩ := karr_knd ha
      have hat := ws_at (cA := cA) (ad := ad) (μ := μ) hp9
      unfold cellE at hat
      rw [hkd] at hat
      have hr := rng32 (hwM k a i9) (fun len' z => by rw [ha] at z; cases z)
      refine va_iald hx hb hK hP p9 0 hat rfl (n_in hi9 hin) dec ?_
      rw [n_ix hi9, show ((i9.toNat : Nat) : Int) = i9 by omega]
      exact h hwL (wfS_k hr ht) hwM H locs ls hP hS hl
    · exact for_iald (g := g) X hr9 hi9 hk hf9 hin hS dec (fun hr => h hwL (wfS_k hr ht) hwM H locs ls hP hS hl)
  case baload =>
    replace h := opIR_i h
    obtain ⟨k, a, i9, t, rfl, h⟩ := h
    obtain rfl : n = 1 := by simpa using ok
    obtain ⟨hi9, ht⟩ := wfS_c hwS
    obtain ⟨hr9, ht⟩ := wfS_c ht
    rcases Bool.eq_false_or_eq_true (isZ k) with hbb | hbb
    · rw [hbb, cond_true] at h
      obtain ⟨ni, h⟩ := elds_i (g := g) h
      rcases h with ⟨hk, len, ha, hin, h⟩ | ⟨hk, hf9, hin, h⟩
      · obtain ⟨p9, hp9⟩ := ids_at hk hr9
        obtain ⟨n9, hkd⟩ := karr_knd ha
        have hat := ws_at (cA := cA) (ad := ad) (μ := μ) hp9
        unfold cellE at hat
        rw [hkd] at hat
        have hr := rng32 (hwM k a i9) (fun len' z => by rw [ha] at z; cases z)
        refine va_zald hx hb hK hP p9 1 hat rfl (n_in hi9 hin) dec ?_
        rw [n_ix hi9, show ((i9.toNat : Nat) : Int) = i9 by omega]
        exact h hwL (wfS_k hr ht) hwM H locs ls hP hS hl
      · exact absurd hf9 (by unfold fty; cases (k == 102) <;> cases (k == 100) <;> cases (k == 103) <;> decide)
    · rw [hbb, cond_false] at h
      obtain ⟨ni, h⟩ := elds_i (g := g) h
      rcases h with ⟨hk, len, ha, hin, h⟩ | ⟨hk, hf9, hin, h⟩
      · obtain ⟨p9, hp9⟩ := ids_at hk hr9
        obtain ⟨n9, hkd⟩ := karr_knd ha
        have hat := ws_at (cA := cA) (ad := ad) (μ := μ) hp9
        unfold cellE at hat
        rw [hkd] at hat
        have hr := rng32 (hwM k a i9) (fun len' z => by rw [ha] at z; cases z)
        refine va_bald hx hb hK hP p9 2 hat rfl (n_in hi9 hin) dec ?_
        rw [n_ix hi9, show ((i9.toNat : Nat) : Int) = i9 by omega]
        exact h hwL (wfS_k hr ht) hwM H locs ls hP hS hl
      · exact for_bald (g := g) X hr9 hi9 hk hf9 hin hS dec (fun hr => h hwL (wfS_k hr ht) hwM H locs ls hP hS hl)
  case laload =>
    replace h := opIR_i h
    obtain ⟨k, a, i9, t, rfl, h⟩ := h
    obtain rfl : n = 1 := by simpa using ok
    obtain ⟨hi9, ht⟩ := wfS_c hwS
    obtain ⟨hr9, ht⟩ := wfS_c ht
    replace h := ests_i h
    obtain ⟨len, ha, hin, h⟩ := h
    obtain ⟨n9, hkd⟩ := karr_knd ha
    obtain ⟨p9, hp9⟩ := ids_at (by have := knd_lt hkd; omega) hr9
    have hat := ws_at (cA := cA) (ad := ad) (μ := μ) hp9
    unfold cellE at hat
    rw [hkd] at hat
    refine va_lald hx hb hK hP p9 3 hat rfl (n_in hi9 hin) dec ?_
    rw [n_ix hi9, show ((i9.toNat : Nat) : Int) = i9 by omega]
    exact h hwL (wfS_k (rng64 (hwM k a i9)) ht) hwM H locs ls hP hS hl
  case iastore =>
    replace h := opIIR_i h
    obtain ⟨k, a, i9, x, t, rfl, h⟩ := h
    obtain rfl : n = 1 := by simpa using ok
    obtain ⟨hx9, ht⟩ := wfS_c hwS
    obtain ⟨hi9, ht⟩ := wfS_c ht
    obtain ⟨hr9, ht⟩ := wfS_c ht
    replace h := ests_i h
    obtain ⟨len, ha, hin, h⟩ := h
    obtain ⟨n9, hkd⟩ := karr_knd ha
    obtain ⟨p9, hp9⟩ := ids_at (by have := knd_lt hkd; omega) hr9
    have hat := ws_at (cA := cA) (ad := ad) (μ := μ) hp9
    unfold cellE at hat
    rw [hkd] at hat
    skip
    refine va_iast hx hb hK hP (hD μ) hS p9 0 hat rfl (n_in hi9 hin) dec (fun H1 locs1 hP1 hD1 hS1 => ?_)
    rw [n_ix hi9] at hP1
    have he := ws_set (cA := cA) (ad := ad) hp9 (up_off (μ := μ) (j := i9) (x := x))
    unfold cellE at he
    rw [hkd] at he
    have hc : upd (fun j : Nat => Int32.ofInt (μ k a j)) i9.toNat (Int32.ofInt x) = (fun j : Nat => Int32.ofInt (up μ k a i9 x k a j)) := by
      funext j
      unfold upd up
      by_cases hj : j = i9.toNat
      · rw [if_pos hj, if_pos ⟨rfl, by omega, rfl⟩]
      · rw [if_neg hj, if_neg (fun z => hj (by omega))]
    rw [hc] at hP1
    exact h hwL ht (up_wf hwM (show rng k x by unfold rng; rw [ha]; exact hx9)) H1 locs1 ls (he ▸ hP1) hS1 hl
  case bastore =>
    replace h := opIIR_i h
    obtain ⟨k, a, i9, x, t, rfl, h⟩ := h
    obtain rfl : n = 1 := by simpa using ok
    obtain ⟨hx9, ht⟩ := wfS_c hwS
    obtain ⟨hi9, ht⟩ := wfS_c ht
    obtain ⟨hr9, ht⟩ := wfS_c ht
    rcases Bool.eq_false_or_eq_true (isZ k) with hbb | hbb
    · rw [hbb, cond_true] at h
      replace h := ests_i h
      obtain ⟨len, ha, hin, h⟩ := h
      obtain ⟨n9, hkd⟩ := karr_knd ha
      obtain ⟨p9, hp9⟩ := ids_at (by have := knd_lt hkd; omega) hr9
      have hat := ws_at (cA := cA) (ad := ad) (μ := μ) hp9
      unfold cellE at hat
      rw [hkd] at hat
      skip
      refine va_zast hx hb hK hP (hD μ) hS p9 1 hat rfl (n_in hi9 hin) dec (fun H1 locs1 hP1 hD1 hS1 => ?_)
      rw [n_ix hi9] at hP1
      have he := ws_set (cA := cA) (ad := ad) hp9 (up_off (μ := μ) (j := i9) (x := x))
      unfold cellE at he
      rw [hkd] at he
      have hc : upd (fun j : Nat => Int32.ofInt (μ k a j)) i9.toNat (vp_nar .boolean (Int32.ofInt x)) = (fun j : Nat => Int32.ofInt (up μ k a i9 x k a j)) := by
        funext j
        unfold upd up
        by_cases hj : j = i9.toNat
        · rw [if_pos hj, if_pos ⟨rfl, by omega, rfl⟩]; exact nar_z h.1
        · rw [if_neg hj, if_neg (fun z => hj (by omega))]
      rw [hc] at hP1
      exact h.2 hwL ht (up_wf hwM (show rng k x by unfold rng; rw [ha]; exact h.1)) H1 locs1 ls (he ▸ hP1) hS1 hl
    · rw [hbb, cond_false] at h
      replace h := ests_i h
      obtain ⟨len, ha, hin, h⟩ := h
      obtain ⟨n9, hkd⟩ := karr_knd ha
      obtain ⟨p9, hp9⟩ := ids_at (by have := knd_lt hkd; omega) hr9
      have hat := ws_at (cA := cA) (ad := ad) (μ := μ) hp9
      unfold cellE at hat
      rw [hkd] at hat
      skip
      refine va_bast hx hb hK hP (hD μ) hS p9 2 hat rfl (n_in hi9 hin) dec (fun H1 locs1 hP1 hD1 hS1 => ?_)
      rw [n_ix hi9] at hP1
      have he := ws_set (cA := cA) (ad := ad) hp9 (up_off (μ := μ) (j := i9) (x := (w8 x)))
      unfold cellE at he
      rw [hkd] at he
      have hc : upd (fun j : Nat => Int32.ofInt (μ k a j)) i9.toNat (vp_nar .byte (Int32.ofInt x)) = (fun j : Nat => Int32.ofInt (up μ k a i9 (w8 x) k a j)) := by
        funext j
        unfold upd up
        by_cases hj : j = i9.toNat
        · rw [if_pos hj, if_pos ⟨rfl, by omega, rfl⟩]; rw [vp_nar_byte]; exact n_i2b hx9
        · rw [if_neg hj, if_neg (fun z => hj (by omega))]
      rw [hc] at hP1
      exact h hwL ht (up_wf hwM (show rng k (w8 x) by unfold rng; rw [ha]; show -128 ≤ w8 x ∧ w8 x ≤ 127; unfold w8; omega)) H1 locs1 ls (he ▸ hP1) hS1 hl
  case lastore =>
    replace h := opLIR_i h
    obtain ⟨k, a, i9, x, t, rfl, h⟩ := h
    obtain rfl : n = 1 := by simpa using ok
    obtain ⟨hx9, ht⟩ := wfS_c hwS
    obtain ⟨hi9, ht⟩ := wfS_c ht
    obtain ⟨hr9, ht⟩ := wfS_c ht
    replace h := ests_i h
    obtain ⟨len, ha, hin, h⟩ := h
    obtain ⟨n9, hkd⟩ := karr_knd ha
    obtain ⟨p9, hp9⟩ := ids_at (by have := knd_lt hkd; omega) hr9
    have hat := ws_at (cA := cA) (ad := ad) (μ := μ) hp9
    unfold cellE at hat
    rw [hkd] at hat
    skip
    refine va_last hx hb hK hP (hD μ) hS p9 3 hat rfl (n_in hi9 hin) dec (fun H1 locs1 hP1 hD1 hS1 => ?_)
    rw [n_ix hi9] at hP1
    have he := ws_set (cA := cA) (ad := ad) hp9 (up_off (μ := μ) (j := i9) (x := x))
    unfold cellE at he
    rw [hkd] at he
    have hc : vp_updL (fun j : Nat => Int64.ofInt (μ k a j)) i9.toNat (Int64.ofInt x) = (fun j : Nat => Int64.ofInt (up μ k a i9 x k a j)) := by
      funext j
      unfold vp_updL up
      by_cases hj : j = i9.toNat
      · rw [if_pos hj, if_pos ⟨rfl, by omega, rfl⟩]
      · rw [if_neg hj, if_neg (fun z => hj (by omega))]
    rw [hc] at hP1
    exact h hwL ht (up_wf hwM (show rng k x by unfold rng; rw [ha]; exact hx9)) H1 locs1 ls (he ▸ hP1) hS1 hl
  case aaload =>
    replace h := opIR_i h
    obtain ⟨k, a, i9, t, rfl, h⟩ := h
    obtain rfl : n = 1 := by simpa using ok
    obtain ⟨hi9, ht⟩ := wfS_c hwS
    obtain ⟨hr9, ht⟩ := wfS_c ht
    split at h
    · rename_i ek tc len ha
      obtain ⟨hin, h⟩ := h
      obtain ⟨n9, hkd⟩ := kref_knd ha
      obtain ⟨hk2, tyn, htt, hcnt⟩ := kref_ok ha
      obtain ⟨p9, hp9⟩ := ids_at (by have := knd_lt hkd; omega) hr9
      have hat := ws_at (cA := cA) (ad := ad) (μ := μ) hp9
      unfold cellE at hat
      rw [hkd] at hat
      refine va_aldq hx hb hK hP p9 tc (C := tyn) hat (htt cA) (n_in hi9 hin) dec ?_
      rw [n_ix hi9, show ((i9.toNat : Nat) : Int) = i9 by omega]
      exact h hwL (wfS_k (show refOk ek i9 by unfold refOk; rw [show Nat.blt ek 100 = true from Nat.ble_eq_true_of_le (show ek + 1 ≤ 100 by omega), cond_true]; omega) ht) hwM H locs ls hP hS hl
    · exact h.elim
  case arraylength =>
    replace h := opR_i h
    obtain ⟨k, a, t, rfl, h⟩ := h
    obtain rfl : n = 1 := by simpa using ok
    obtain ⟨hr9, ht⟩ := wfS_c hwS
    cases hb1 : Nat.blt k 100
    · rw [hb1, cond_false] at h
      cases hb2 : k == 101
      · rw [hb2, cond_false] at h
        exact for_len (g := g) X hr9 hb1 hb2 hS dec (fun hr => h hwL (wfS_k hr ht) hwM H locs ls hP hS hl)
      · rw [hb2] at h; exact h.elim
    · rw [hb1] at h; exact h.elim
  case getfield idx =>
    replace h := opR_i h
    obtain ⟨k, a, t, rfl, h⟩ := h
    simp only [Bool.and_eq_true, beq_iff_eq] at ok
    obtain ⟨rfl, ok⟩ := ok
    obtain ⟨hr9, ht⟩ := wfS_c hwS
    cases hb1 : r.1 == 90
    · rw [hb1, cond_false] at h ok
      cases hb2 : r.1 == 91
      · rw [hb2, cond_false] at h ok
        replace h := bif_i h
        obtain ⟨hc, h⟩ := h
        have hc : kcls k = some r.1 := by simpa using hc
        split at ok
        · rename_i C T N hv
          simp only [Bool.and_eq_true, decide_eq_true_eq] at ok
          split at h
          · rename_i b hf
            obtain ⟨n9, c9, l9, hkd, hn9⟩ := kfld_knd hf
            have : c9 = r.1 := by unfold kcls at hc; rw [hkd] at hc; exact Option.some.inj hc
            subst this
            obtain ⟨p9, hp9⟩ := ids_at (by have := knd_lt hkd; omega) hr9
            have hat := ws_at (cA := cA) (ad := ad) (μ := μ) hp9
            unfold cellE at hat
            rw [hkd] at hat
            have hfs := fs_at (ad := ad) (row := μ k a) (a := a) (j0 := 0) hn9
            rw [Nat.zero_add] at hfs
            exact va_get hx hb hts (hin_at hv) hown hK hP p9 hat hv r.2.1 ok.1 (hts _ (tw_in ok.2 rfl)) (fun _ h9 => h9) hfs dec (h hwL (wfS_k ((rngObj hf).mp (hwM k a _)) ht) hwM H locs ls hP hS hl)
          · rename_i q9 hf
            obtain ⟨n9, c9, l9, hkd, hn9⟩ := kfld_knd hf
            have : c9 = r.1 := by unfold kcls at hc; rw [hkd] at hc; exact Option.some.inj hc
            subst this
            obtain ⟨p9, hp9⟩ := ids_at (by have := knd_lt hkd; omega) hr9
            have hat := ws_at (cA := cA) (ad := ad) (μ := μ) hp9
            unfold cellE at hat
            rw [hkd] at hat
            have hfs := fs_at (ad := ad) (row := μ k a) (a := a) (j0 := 0) hn9
            exact va_get hx hb hts (hin_at hv) hown hK hP p9 hat hv r.2.1 ok.1 (hts _ (tw_in ok.2 rfl)) (fun _ h9 => h9) hfs dec (h hwL (wfS_k (refs_ok hf hr9) ht) hwM H locs ls hP hS hl)
          · exact h.elim
        · exact absurd ok (by decide)
      · rw [hb2, cond_true] at h ok
        replace h := bif_i h
        obtain ⟨hc, h⟩ := h
        obtain rfl : k = 101 := by simpa using hc
        obtain ⟨j9, hj9, ha9⟩ := str_ix (a := a) hr9
        subst ha9
        exact vk_getf hx hb ((hF.2.2.2.2.2.1 j9 hj9).2.2.1) hS hown (hts _ (tw_in (of_decide_eq_true ok) rfl)) (fun _ h9 => h9) dec (h hwL (wfS_k (str_r2 hr9) ht) hwM H locs ls hP hS hl)
    · rw [hb1, cond_true] at h ok
      replace h := bif_i h
      obtain ⟨hc, h⟩ := h
      obtain rfl : k = 101 := by simpa using hc
      obtain ⟨j9, hj9, ha9⟩ := str_ix (a := a) hr9
      subst ha9
      exact vk_getf hx hb ((hF.2.2.2.2.2.1 j9 hj9).2.1) hS hown (hts _ (tw_in (of_decide_eq_true ok) rfl)) (fun _ h9 => h9) dec (h hwL (wfS_k r32_0 ht) hwM H locs ls hP hS hl)
  case putfield idx =>
    replace h := opIRp_i h
    obtain ⟨k, a, x, t, rfl, h⟩ := h
    simp only [Bool.and_eq_true, beq_iff_eq] at ok
    obtain ⟨rfl, ok⟩ := ok
    obtain ⟨hx9, ht⟩ := wfS_c hwS
    obtain ⟨hr9, ht⟩ := wfS_c ht
    replace h := bif_i h
    obtain ⟨hc, h⟩ := h
    have hc : kcls k = some r.1 := by simpa using hc
    split at ok
    · rename_i C T N hv
      simp only [Bool.and_eq_true, decide_eq_true_eq] at ok
      have hfin := okp idx rfl C T N hv
      have key : ∀ b, kfld k r.2.1 = some (.inl b) → (b = true → x = 0 ∨ x = 1) → Go p l e R s m args below meth c cells slots Z D cA ad od A q (pc + 3) L t (up μ k a r.2.1 x) → W p l e R s m args below meth c H locs cells slots Z (F0 m pc ls (.int (Int32.ofInt x) :: .ref (ad k a) :: t.map (conc ad od))) := by
        intro b hf hbx h
        obtain ⟨n9, c9, l9, hkd, hn9⟩ := kfld_knd hf
        have : c9 = r.1 := by unfold kcls at hc; rw [hkd] at hc; exact Option.some.inj hc
        subst this
        obtain ⟨C', T', N', hv', hN', hty⟩ := kchk_at hkd
        have hvv : (C', T', N') = (C, T, N) := Option.some.inj (hv'.symm.trans hv)
        obtain ⟨rfl, rfl, rfl⟩ : C' = C ∧ T' = T ∧ N' = N := ⟨congrArg (·.1) hvv, congrArg (·.2.1) hvv, congrArg (·.2.2) hvv⟩
        obtain ⟨p9, hp9⟩ := ids_at (by have := knd_lt hkd; omega) hr9
        have hat := ws_at (cA := cA) (ad := ad) (μ := μ) hp9
        unfold cellE at hat
        rw [hkd] at hat
        have he := ws_set (cA := cA) (ad := ad) hp9 (up_off (μ := μ) (j := r.2.1) (x := x))
        unfold cellE at he
        rw [hkd] at he
        obtain ⟨ty0, hty0, hnm0⟩ := cls_ok hv
        have hd9 : parseFieldDescriptor (T' r.2.1).2.2.1 = some (bif b then .boolean else .int) := by rw [hty _ _ hn9]; cases b <;> decide +kernel
        refine va_put hx hb hts (hin_at hv) ty0 hty0 hnm0 hown hK hP (hD μ) hS p9 hat hv r.2.1 ok.1 (hts _ (tw_in ok.2 rfl)) (fun _ h9 => h9) hfin (v := .int (Int32.ofInt x)) hd9 ?_ ?_ (by rw [fs_len]; exact nthL_lt hn9) dec (fun H1 locs1 hP1 hD1 hS1 => ?_)
        · cases b
          · rfl
          · rcases hbx rfl with e9 | e9 <;> rw [e9] <;> rfl
        · cases b
          · rfl
          · rcases hbx rfl with e9 | e9 <;> rw [e9] <;> rfl
        · rw [fs_set (row' := up μ k a r.2.1 x k a) (x := x) hn9 (by unfold up; rw [if_pos ⟨rfl, by simp, rfl⟩]) (fun t9 ht9 => by unfold up; rw [if_neg (fun z => ht9 (by simpa using z.2.1))])] at hP1
          exact h hwL ht (up_wf hwM ((rngObj hf).mpr hx9)) H1 locs1 ls (he ▸ hP1) hS1 hl
      split at h
      · rename_i hf; exact key true hf (fun _ => h.1) h.2
      · rename_i hf; exact key false hf (fun z => by cases z) h
      · exact h.elim
    · exact absurd ok (by decide)
  case getstatic idx =>
    simp only [Bool.and_eq_true, beq_iff_eq] at ok
    obtain ⟨rfl, ok⟩ := ok
    split at h
    · rename_i hr0
      rw [hr0] at ok
      exact va_gets hx hb hF.2.1 hS hown (hts _ (tw_in (of_decide_eq_true ok) rfl)) (fun _ h9 => h9) dec (h hwL (wfS_k (show refOk 100 0 by unfold refOk; decide) hwS) hwM H locs ls hP hS hl)
    · rename_i hr0
      rw [hr0] at ok
      exact for_gets1 X ok hS dec (h hwL (wfS_k (show refOk 100 0 by unfold refOk; decide) hwS) hwM H locs ls hP hS hl)
    · rename_i hr0
      rw [hr0] at ok
      exact va_gets hx hb hF.2.2.2.1 hS hown (hts _ (tw_in (of_decide_eq_true ok) rfl)) (fun _ h9 => h9) dec (h hwL (wfS_k (show r32 1 by unfold r32; omega) hwS) hwM H locs ls hP hS hl)
    · rename_i hr0
      rw [hr0] at ok
      exact va_gets hx hb hF.2.2.2.2.1 hS hown (hts _ (tw_in (of_decide_eq_true ok) rfl)) (fun _ h9 => h9) dec (h hwL (wfS_k trivial hwS) hwM H locs ls hP hS hl)
    · exact h.elim
  case invokevirtual idx =>
    simp only [Bool.and_eq_true, beq_iff_eq] at ok
    obtain ⟨rfl, ok⟩ := ok
    split at h
    · rename_i k a as t hpop
      replace h := bif_i h
      obtain ⟨hc, ht4, h⟩ := h
      exact inv_v X hCal hpop (by simpa using hc) ht4 h ok hwL hwS hwM hP hS hl dec
    · exact h.elim
  case invokestatic idx =>
    simp only [Bool.and_eq_true, beq_iff_eq] at ok
    obtain ⟨rfl, ok⟩ := ok
    cases hb1 : Nat.blt r.1 1000
    · rw [hb1, cond_false] at h ok
      exact inv_p X h ok hwL hwS hwM hP hS hl dec
    · rw [hb1, cond_true] at h ok
      split at h
      · rename_i as t hpop
        exact inv_s X hCal hpop h.1 h.2 ok hwL hwS hwM hP hS hl dec
      · exact h.elim
  case ireturn =>
    split at h
    · rename_i x
      simp only [Bool.and_eq_true, decide_eq_true_eq, beq_iff_eq] at ok
      obtain ⟨rfl, ok⟩ := ok
      have h1 := h.1
      rw [hrt] at h1
      refine h.2 hwM (fun v hv => by cases hv; exact (wfS_c hwS).1) pc H locs ls hP hS ⟨dec, ?_⟩
      rcases ok with e9 | e9 | e9 | e9
      · exact Or.inl e9
      · rw [e9] at h1; exact Or.inr (Or.inl ⟨e9, h1⟩)
      · rw [e9] at h1; exact Or.inr (Or.inr (Or.inl ⟨e9, h1⟩))
      · rw [e9] at h1; exact Or.inr (Or.inr (Or.inr ⟨e9, h1⟩))
    · exact h.elim
  case lreturn =>
    split at h
    · rename_i x
      simp only [Bool.and_eq_true, decide_eq_true_eq, beq_iff_eq] at ok
      obtain ⟨rfl, ok⟩ := ok
      exact h hwM (fun v hv => by cases hv; exact (wfS_c hwS).1) pc H locs ls hP hS ⟨dec, ok⟩
    · exact h.elim
  case areturn =>
    split at h
    · rename_i x
      simp only [Bool.and_eq_true, beq_iff_eq] at ok
      obtain ⟨rfl, ok⟩ := ok
      refine h hwM (fun v hv => by cases hv; exact (wfS_c hwS).1) pc H locs ls hP hS ⟨dec, ?_⟩
      split at ok
      · rename_i n9 e9; exact ⟨n9, e9⟩
      · cases ok
    · exact h.elim
  case return_ =>
    split at h
    · simp only [Bool.and_eq_true, decide_eq_true_eq, beq_iff_eq] at ok
      obtain ⟨rfl, ok⟩ := ok
      exact h hwM (fun v hv => by cases hv) pc H locs ls hP hS ⟨dec, ok⟩
    · exact h.elim
