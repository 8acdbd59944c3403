/-! The heap that a memory stands for. -/
def TW : List Jvm.Cond := lw_tbl.filter goodWord
theorem tw_in {w : Jvm.Cond} {k : Nat} (h : lw_tbl[k]? = some w) (hg : goodWord w = true) : w ∈ TW := List.mem_filter.mpr ⟨List.mem_of_getElem? h, hg⟩
def conc (ad : Nat → Int → Nat) (od : Nat → Value) : aV → Value
  | Sum.inl x => .int (Int32.ofInt x)
  | Sum.inr (Sum.inl x) => .long (Int64.ofInt x)
  | Sum.inr (Sum.inr (Sum.inl q)) => .ref (ad q.1 q.2)
  | Sum.inr (Sum.inr (Sum.inr j)) => od j
def refOk (k : Nat) (a : Int) : Prop := 0 ≤ a ∧ a < (bif Nat.blt k 100 then kcnt k else fcnt k)
def wfV : aV → Prop
  | Sum.inl x => r32 x
  | Sum.inr (Sum.inl x) => r64 x
  | Sum.inr (Sum.inr (Sum.inl q)) => refOk q.1 q.2
  | Sum.inr (Sum.inr (Sum.inr _)) => True
def wfS (st : List aV) : Prop := ∀ v ∈ st, wfV v
def wfL (L : aLs) : Prop := ∀ i v, nth L i = some v → wfV v
def wfM (μ : aM) : Prop := ∀ k a j, rng k (μ k a j)
def wfO (o : Option aV) : Prop := ∀ v, o = some v → wfV v
def fsOf (ad : Nat → Int → Nat) (row : Int → Int) (a : Int) : Nat → List aFI → List Value
  | _, [] => []
  | j, Sum.inl _ :: l => .int (Int32.ofInt (row j)) :: fsOf ad row a (j + 1) l
  | j, Sum.inr q :: l => .ref (ad q.1 (q.2 a)) :: fsOf ad row a (j + 1) l
def cellE (cA : Nat → ClassId) (ad : Nat → Int → Nat) (k : Nat) (a : Int) (row : Int → Int) : va_E := match knd k with
  | some (_, .inl (c, l)) => .inr (c, fsOf ad row a 0 l)
  | some (_, .inr (.inl (tc, len))) => .inl (cA tc, (len a).toNat, bif tc == 3 then .inr (.inl (fun j => Int64.ofInt (row j))) else .inl (fun j => Int32.ofInt (row j)))
  | some (_, .inr (.inr (ek, tc, len))) => .inl (cA tc, len.toNat, .inr (.inr (.inr (.inr (fun j => some (ad ek j))))))
  | none => .inr (0, [])
def ids : List (Nat × Int) := (List.range 76).flatMap (fun k => (List.range (kcnt k).toNat).map (fun i : Nat => (k, (i : Int))))
def wsOf (cA : Nat → ClassId) (ad : Nat → Int → Nat) (μ : aM) : va_W := ids.map (fun q => (ad q.1 q.2, cellE cA ad q.1 q.2 (μ q.1 q.2)))
def tysOf (cA : Nat → ClassId) : List (ClassId × FieldType) := [(cA 0, .int), (cA 1, .boolean), (cA 2, .byte), (cA 3, .long), (cA 4, .object "PealOfExcuses$Town"), (cA 5, .object "PealOfExcuses$Tape")]
theorem nthL_none {α : Type} : ∀ (l : List α) (k : Nat), l.length ≤ k → nthL l k = none
  | [], _, _ => rfl
  | _ :: l, 0, h => by simp at h
  | _ :: l, k + 1, h => nthL_none l k (by simpa using h)
theorem nthL_lt {α : Type} : ∀ {l : List α} {k : Nat} {x : α}, nthL l k = some x → k < l.length
  | [], _, _, h => by cases h
  | _ :: _, 0, _, _ => by simp
  | _ :: l, k + 1, _, h => by have := nthL_lt (l := l) h; simp; omega
theorem nthL_get {α : Type} : ∀ {l : List α} {k : Nat} {x : α}, nthL l k = some x → l[k]? = some x
  | [], _, _, h => by cases h
  | _ :: _, 0, _, h => by simpa [nthL] using h
  | _ :: l, k + 1, _, h => by have := nthL_get (l := l) h; simpa using this
theorem kcnt_lt {k : Nat} (h : 0 < kcnt k) : k < 76 := by
  rcases Nat.lt_or_ge k 76 with q | q
  · exact q
  · unfold kcnt knd at h
    rw [nthL_none KT k q] at h
    exact absurd h (by decide)
set_option maxRecDepth 100000 in
theorem ids_nodup : ids.Nodup := by decide +kernel
theorem ids_at {k : Nat} {a : Int} (hk : k < 100) (h : refOk k a) : ∃ p : Nat, ids[p]? = some (k, a) := by
  unfold refOk at h
  rw [show Nat.blt k 100 = true from Nat.ble_eq_true_of_le (show k + 1 ≤ 100 by omega), cond_true] at h
  have h7 := kcnt_lt (show 0 < kcnt k by omega)
  apply List.getElem?_of_mem
  unfold ids
  refine List.mem_flatMap.mpr ⟨k, List.mem_range.mpr h7, List.mem_map.mpr ⟨a.toNat, List.mem_range.mpr (by omega), ?_⟩⟩
  rw [show ((a.toNat : Nat) : Int) = a by omega]
theorem ws_at {cA : Nat → ClassId} {ad : Nat → Int → Nat} {μ : aM} {p k : Nat} {a : Int} (h : ids[p]? = some (k, a)) : (wsOf cA ad μ)[p]? = some (ad k a, cellE cA ad k a (μ k a)) := by
  unfold wsOf; rw [List.getElem?_map, h]; rfl
theorem ws_set {cA : Nat → ClassId} {ad : Nat → Int → Nat} {μ μ' : aM} {p k : Nat} {a : Int} (h : ids[p]? = some (k, a)) (hr : ∀ k' a', (k', a') ≠ (k, a) → μ' k' a' = μ k' a') : (wsOf cA ad μ).set p (ad k a, cellE cA ad k a (μ' k a)) = wsOf cA ad μ' := by
  apply List.ext_getElem?
  intro q
  by_cases e : p = q
  · subst e
    rw [List.getElem?_set_self (List.getElem?_eq_some_iff.mp (ws_at (cA := cA) (ad := ad) (μ := μ) h)).1, ws_at h]
  · rw [List.getElem?_set_ne e]
    unfold wsOf
    rw [List.getElem?_map, List.getElem?_map]
    cases hq : ids[q]? with
    | none => rfl
    | some x =>
      have hx : (x.1, x.2) ≠ (k, a) := fun z => e ((List.getElem?_inj (List.getElem?_eq_some_iff.mp h).1 ids_nodup).mp (by rw [h, hq, ← z]))
      simp only [Option.map_some]
      rw [hr _ _ hx]
theorem up_off {μ : aM} {k : Nat} {a j x : Int} : ∀ k' a', (k', a') ≠ (k, a) → up μ k a j x k' a' = μ k' a' := by
  intro k' a' h
  funext t
  unfold up
  rw [if_neg (fun z => h (by rw [z.1, z.2.2]))]
theorem cp_off {μ : aM} {k0 k : Nat} {a0 sp a dp n : Int} : ∀ k' a', (k', a') ≠ (k, a) → cp μ k0 a0 sp k a dp n k' a' = μ k' a' := by
  intro k' a' h
  funext t
  unfold cp
  rw [if_neg (fun z => h (by rw [z.1, z.2.1]))]
theorem fs_at {ad : Nat → Int → Nat} {row : Int → Int} {a : Int} : ∀ {l : List aFI} {j0 j : Nat} {f : aFI}, nthL l j = some f → (fsOf ad row a j0 l)[j]? = some (match f with | .inl _ => .int (Int32.ofInt (row ((j0 + j : Nat) : Int))) | .inr q => .ref (ad q.1 (q.2 a)))
  | [], _, _, _, h => by cases h
  | .inl b :: l, j0, 0, f, h => by cases h; rfl
  | .inr q :: l, j0, 0, f, h => by cases h; rfl
  | .inl b :: l, j0, j + 1, f, h => by
    have := fs_at (ad := ad) (row := row) (a := a) (l := l) (j0 := j0 + 1) (j := j) h
    rw [show j0 + 1 + j = j0 + (j + 1) by omega] at this
    simpa [fsOf] using this
  | .inr q :: l, j0, j + 1, f, h => by
    have := fs_at (ad := ad) (row := row) (a := a) (l := l) (j0 := j0 + 1) (j := j) h
    rw [show j0 + 1 + j = j0 + (j + 1) by omega] at this
    simpa [fsOf] using this
theorem fs_cong {ad : Nat → Int → Nat} {row row' : Int → Int} {a : Int} : ∀ {l : List aFI} {j0 : Nat}, (∀ t : Nat, j0 ≤ t → row t = row' t) → fsOf ad row a j0 l = fsOf ad row' a j0 l
  | [], _, _ => rfl
  | .inl b :: l, j0, h => by
    have := fs_cong (ad := ad) (a := a) (l := l) (j0 := j0 + 1) (fun t ht => h t (by omega))
    simp only [fsOf]; rw [h j0 (Nat.le_refl _), this]
  | .inr q :: l, j0, h => by
    have := fs_cong (ad := ad) (a := a) (l := l) (j0 := j0 + 1) (fun t ht => h t (by omega))
    simp only [fsOf]; rw [this]
theorem fs_set {ad : Nat → Int → Nat} {row row' : Int → Int} {a x : Int} {b : Bool} : ∀ {l : List aFI} {j0 j : Nat}, nthL l j = some (.inl b) → row' ((j0 + j : Nat) : Int) = x → (∀ t : Int, t ≠ ((j0 + j : Nat) : Int) → row' t = row t) → (fsOf ad row a j0 l).set j (.int (Int32.ofInt x)) = fsOf ad row' a j0 l
  | [], _, _, h, _, _ => by cases h
  | .inl b :: l, j0, 0, h, hx, hr => by
    simp only [fsOf, List.set_cons_zero]
    rw [← hx, fs_cong (row := row) (row' := row') (fun t ht => (hr t (by omega)).symm)]; rfl
  | .inr q :: l, j0, 0, h, hx, hr => by cases h
  | .inl b' :: l, j0, j + 1, h, hx, hr => by
    simp only [fsOf, List.set_cons_succ]
    rw [fs_set (l := l) (j0 := j0 + 1) (j := j) h (by rw [show j0 + 1 + j = j0 + (j + 1) by omega]; exact hx) (by rw [show j0 + 1 + j = j0 + (j + 1) by omega]; exact hr), hr j0 (by omega)]
  | .inr q :: l, j0, j + 1, h, hx, hr => by
    simp only [fsOf, List.set_cons_succ]
    rw [fs_set (l := l) (j0 := j0 + 1) (j := j) h (by rw [show j0 + 1 + j = j0 + (j + 1) by omega]; exact hx) (by rw [show j0 + 1 + j = j0 + (j + 1) by omega]; exact hr)]
theorem fs_len {ad : Nat → Int → Nat} {row : Int → Int} {a : Int} : ∀ {l : List aFI} {j0 : Nat}, (fsOf ad row a j0 l).length = l.length
  | [], _ => rfl
  | .inl b :: l, j0 => by simp [fsOf, fs_len (l := l)]
  | .inr q :: l, j0 => by simp [fsOf, fs_len (l := l)]
theorem kfld_knd {k j : Nat} {f : aFI} (h : kfld k j = some f) : ∃ n c l, knd k = some (n, .inl (c, l)) ∧ nthL l j = some f := by
  unfold kfld at h
  split at h
  · rename_i n c l e; exact ⟨n, c, l, e, h⟩
  · cases h
theorem karr_knd {k : Nat} {q : Nat × (Int → Int)} (h : karr k = some q) : ∃ n, knd k = some (n, .inr (.inl q)) := by
  unfold karr at h
  split at h
  · rename_i n q' e; cases h; exact ⟨n, e⟩
  · cases h
theorem kref_knd {k : Nat} {q : Nat × Nat × Int} (h : kref k = some q) : ∃ n, knd k = some (n, .inr (.inr q)) := by
  unfold kref at h
  split at h
  · rename_i n q' e; cases h; exact ⟨n, e⟩
  · cases h
theorem knd_lt {k : Nat} {q : aKI} (h : knd k = some q) : k < 76 := by
  unfold knd at h
  exact nthL_lt h
theorem kcls_knd {k c : Nat} (h : kcls k = some c) (hk : k < 100) : ∃ n l, knd k = some (n, .inl (c, l)) := by
  unfold kcls at h
  split at h
  · rename_i n c' l e; cases h; exact ⟨n, l, e⟩
  · have : (k == 101) = false := by simpa using (by omega : k ≠ 101)
    rw [this] at h; cases h
def kchk : Bool := (List.range 76).all fun k => match knd k with
  | some (_, .inl (c, l)) => (match vwCl[c]? with
    | some (_, T, N) => (l.length == N) && (List.range l.length).all (fun j => match nthL l j with | some (.inl b) => (T j).2.2.1 == (bif b then "Z" else "I") | _ => true)
    | none => false)
  | _ => true
set_option maxRecDepth 100000 in
theorem kchk_ok : kchk = true := by decide +kernel
theorem kchk_at {k : Nat} {n : Int} {c : Nat} {l : List aFI} (h : knd k = some (n, .inl (c, l))) : ∃ C T N, vwCl[c]? = some (C, T, N) ∧ l.length = N ∧ ∀ j b, nthL l j = some (.inl b) → (T j).2.2.1 = (bif b then "Z" else "I") := by
  have h1 := List.all_eq_true.mp kchk_ok k (List.mem_range.mpr (knd_lt h))
  rw [h] at h1
  simp only at h1
  split at h1
  · rename_i C T N e
    refine ⟨C, T, N, e, by simpa using (Bool.and_eq_true_iff.mp h1).1, fun j b hj => ?_⟩
    have h2 := List.all_eq_true.mp (Bool.and_eq_true_iff.mp h1).2 j (List.mem_range.mpr (nthL_lt hj))
    rw [hj] at h2
    simpa using h2
  · cases h1
def strK : List Nat := [72, 74, 76, 78, 97, 102]
def strT : List String := ["lag", "haste", "fast", "loud", "pkvuod", "<=>"]
/-- what is not ours and is only read: ABOVE, the texts, the script -/
def FOR (g : aG) (ad : Nat → Int → Nat) (od : Nat → Value) (A : Nat → Prop) (U : State) (H : Heap) : Prop :=
  va_T .int (ad 100 0) 7 (fun j => .int (Int32.ofInt (gtI abvL j))) A U H ∧ va_Z "PealOfExcuses" "ABOVE" "[I" (.ref (ad 100 0)) A U H ∧ va_Nw (Jvm.Cond.fieldLinkNest "PealOfExcuses$Actor" 41 "PealOfExcuses" "ABOVE" "[I" "PealOfExcuses") U ∧
  va_Z "java/lang/String" "COMPACT_STRINGS" "Z" (.int 1) A U H ∧ va_Z "jdk/internal/util/Preconditions" "SIOOBE_FORMATTER" "Ljava/util/function/BiFunction;" (od 0) A U H ∧
  (∀ j : Nat, j < 6 → va_O "java/lang/String" (ad 101 j) A U H ∧ va_OF "java/lang/String" "coder" "B" (.int 0) (ad 101 j) A U H ∧ va_OF "java/lang/String" "value" "[B" (.ref (ad 102 j)) (ad 101 j) A U H ∧ va_T .byte (ad 102 j) (strL.getD j []).length (fun i => .int (Int32.ofInt (gtI (strL.getD j []) i))) A U H ∧ vk_R "PealOfExcuses$Reader" (strK.getD j 0) (strT.getD j "") (ad 101 j) U) ∧
  va_T .int (ad 103 0) g.1 (fun j => .int (Int32.ofInt (g.2 j))) A U H
theorem FOR.moved {g : aG} {ad : Nat → Int → Nat} {od : Nat → Value} {A : Nat → Prop} {s U : State} {H : Heap} (hW : s.WarmedH U.vm) (h : FOR g ad od A s H) : FOR g ad od A U H := by
  obtain ⟨h1, h2, h3, h4, h5, h6, h7⟩ := h
  have a := hW.alike
  exact ⟨h1.moved a, h2.moved a, va_Nw.warmF hW h3, h4.moved a, h5.moved a, fun j hj => ⟨(h6 j hj).1.moved a, (h6 j hj).2.1.moved a, (h6 j hj).2.2.1.moved a, (h6 j hj).2.2.2.1.moved a, (h6 j hj).2.2.2.2.warm hW⟩, h7.moved a⟩
theorem FOR.kept {g : aG} {ad : Nat → Int → Nat} {od : Nat → Value} {A : Nat → Prop} {U : State} {H H1 : Heap} (h : FOR g ad od A U H) (hq : ∀ a : Nat, a < H.size → ¬ A a → H1[a]? = H[a]?) : FOR g ad od A U H1 := by
  obtain ⟨h1, h2, h3, h4, h5, h6, h7⟩ := h
  exact ⟨h1.kept hq, h2.kept hq, h3, h4.kept hq, h5.kept hq, fun j hj => ⟨(h6 j hj).1.kept hq, (h6 j hj).2.1.kept hq, (h6 j hj).2.2.1.kept hq, (h6 j hj).2.2.2.1.kept hq, (h6 j hj).2.2.2.2⟩, h7.kept hq⟩
theorem FOR.narrow {g : aG} {ad : Nat → Int → Nat} {od : Nat → Value} {A B : Nat → Prop} {U : State} {H : Heap} (h : FOR g ad od A U H) (hAB : ∀ q, B q → A q) : FOR g ad od B U H := by
  obtain ⟨h1, h2, h3, h4, h5, h6, h7⟩ := h
  exact ⟨h1.narrow hAB, h2.narrow hAB, h3, h4.narrow hAB, h5.narrow hAB, fun j hj => ⟨(h6 j hj).1.narrow hAB, (h6 j hj).2.1.narrow hAB, (h6 j hj).2.2.1.narrow hAB, (h6 j hj).2.2.2.1.narrow hAB, (h6 j hj).2.2.2.2⟩, h7.narrow hAB⟩
theorem FOR.call {g : aG} {ad : Nat → Int → Nat} {od : Nat → Value} {A : Nat → Prop} {U : State} {H : Heap} (h : FOR g ad od A U H) (f : JFrame) (mk : MethodId) (a : Array Value) : FOR g ad od A (U.calling f mk a) H := by
  obtain ⟨h1, h2, h3, h4, h5, h6, h7⟩ := h
  have al : U.vm.Alike (U.calling f mk a).vm := Vm.Alike.refl U.vm
  exact ⟨h1.moved al, h2.moved al, va_tabs (A := #[]) (u := U) rfl rfl h3, h4.moved al, h5.moved al, fun j hj => ⟨(h6 j hj).1.moved al, (h6 j hj).2.1.moved al, (h6 j hj).2.2.1.moved al, (h6 j hj).2.2.2.1.moved al, vk_R.same rfl (h6 j hj).2.2.2.2⟩, h7.moved al⟩
/-! locals -/
def lvOf (ad : Nat → Int → Nat) (od : Nat → Value) : Nat → aLs → List (Nat × Value)
  | _, [] => []
  | i, none :: l => lvOf ad od (i + 1) l
  | i, some v :: l => (i, conc ad od v) :: lvOf ad od (i + 1) l
theorem lv_mem {ad : Nat → Int → Nat} {od : Nat → Value} : ∀ {l : aLs} {i0 : Nat} {q : Nat × Value}, q ∈ lvOf ad od i0 l ↔ ∃ j v, q.1 = i0 + j ∧ nth l j = some v ∧ q.2 = conc ad od v
  | [], i0, q => by simp [lvOf, nth]
  | none :: l, i0, q => by
    simp only [lvOf]
    rw [lv_mem (l := l)]
    constructor
    · rintro ⟨j, v, h1, h2, h3⟩; exact ⟨j + 1, v, by omega, h2, h3⟩
    · rintro ⟨j, v, h1, h2, h3⟩
      cases j with
      | zero => cases h2
      | succ j => exact ⟨j, v, by omega, h2, h3⟩
  | some w :: l, i0, q => by
    simp only [lvOf, List.mem_cons]
    rw [lv_mem (l := l)]
    constructor
    · rintro (h | ⟨j, v, h1, h2, h3⟩)
      · exact ⟨0, w, by rw [h]; rfl, rfl, by rw [h]⟩
      · exact ⟨j + 1, v, by omega, h2, h3⟩
    · rintro ⟨j, v, h1, h2, h3⟩
      cases j with
      | zero => cases h2; exact Or.inl (Prod.ext h1 h3)
      | succ j => exact Or.inr ⟨j, v, by omega, h2, h3⟩
theorem lv_get {ad : Nat → Int → Nat} {od : Nat → Value} {L : aLs} {ls : Array Slot} {n i : Nat} {v : aV} (h : lv_has ls n (lvOf ad od 0 L)) (hn : nth L i = some v) : ls[i]? = some (.val (conc ad od v)) :=
  h.2.2 (i, conc ad od v) (lv_mem.mpr ⟨i, v, by simp, hn, rfl⟩)
theorem st1_nth : ∀ (L : aLs) (i j : Nat) (v w : aV), nth (st1 L i v) j = some w → (j = i ∧ w = v) ∨ (j ≠ i ∧ nth L j = some w ∧ (j + 1 = i → isLg (some w) = false))
  | [], _, _, _, _, h => by cases h
  | _ :: l, 0, 0, v, w, h => by simp only [st1, nth] at h; cases h; exact Or.inl ⟨rfl, rfl⟩
  | _ :: l, 0, j + 1, v, w, h => Or.inr ⟨by omega, h, by omega⟩
  | x :: l, 1, 0, v, w, h => by
    simp only [st1, nth] at h
    cases hx : isLg x
    · rw [hx] at h; exact Or.inr ⟨by omega, h, fun _ => by rw [← hx, show x = some w from h]⟩
    · rw [hx] at h; cases h
  | x :: l, 1, j + 1, v, w, h => by
    rcases st1_nth l 0 j v w h with ⟨a, b⟩ | ⟨a, b, c⟩
    · exact Or.inl ⟨by omega, b⟩
    · exact Or.inr ⟨by omega, b, by omega⟩
  | x :: l, n + 2, 0, v, w, h => Or.inr ⟨by omega, h, by omega⟩
  | x :: l, n + 2, j + 1, v, w, h => by
    rcases st1_nth l (n + 1) j v w h with ⟨a, b⟩ | ⟨a, b, c⟩
    · exact Or.inl ⟨by omega, b⟩
    · exact Or.inr ⟨by omega, b, fun z => c (by omega)⟩
theorem st2_nth : ∀ (L : aLs) (i j : Nat) (v w : aV), nth (st2 L i v) j = some w → (j = i ∧ w = v) ∨ (j ≠ i ∧ j ≠ i + 1 ∧ nth L j = some w ∧ (j + 1 = i → isLg (some w) = false))
  | [], _, _, _, _, h => by cases h
  | _ :: l, 0, 0, v, w, h => by simp only [st2, nth] at h; cases h; exact Or.inl ⟨rfl, rfl⟩
  | _ :: [], 0, j + 1, v, w, h => by cases h
  | _ :: _ :: l, 0, 1, v, w, h => by cases h
  | _ :: _ :: l, 0, j + 2, v, w, h => Or.inr ⟨by omega, by omega, h, by omega⟩
  | x :: l, 1, 0, v, w, h => by
    simp only [st2, nth] at h
    cases hx : isLg x
    · rw [hx] at h; exact Or.inr ⟨by omega, by omega, h, fun _ => by rw [← hx, show x = some w from h]⟩
    · rw [hx] at h; cases h
  | x :: l, 1, j + 1, v, w, h => by
    rcases st2_nth l 0 j v w h with ⟨a, b⟩ | ⟨a, b, c, d⟩
    · exact Or.inl ⟨by omega, b⟩
    · exact Or.inr ⟨by omega, by omega, c, by omega⟩
  | x :: l, n + 2, 0, v, w, h => Or.inr ⟨by omega, by omega, h, by omega⟩
  | x :: l, n + 2, j + 1, v, w, h => by
    rcases st2_nth l (n + 1) j v w h with ⟨a, b⟩ | ⟨a, b, c, d⟩
    · exact Or.inl ⟨by omega, b⟩
    · exact Or.inr ⟨by omega, by omega, c, fun z => d (by omega)⟩
theorem st1_wf {L : aLs} {i : Nat} {v : aV} (h : wfL L) (hv : wfV v) : wfL (st1 L i v) := by
  intro j w hj
  rcases st1_nth L i j v w hj with ⟨-, e⟩ | ⟨-, e, -⟩
  · rw [e]; exact hv
  · exact h j w e
theorem st2_wf {L : aLs} {i : Nat} {v : aV} (h : wfL L) (hv : wfV v) : wfL (st2 L i v) := by
  intro j w hj
  rcases st2_nth L i j v w hj with ⟨-, e⟩ | ⟨-, -, e, -⟩
  · rw [e]; exact hv
  · exact h j w e
theorem cat_isLg {ad : Nat → Int → Nat} {od : Nat → Value} (hod : ∀ j, od j = .null ∨ ∃ a, od j = .ref a) {w : aV} (h : isLg (some w) = false) : (conc ad od w).category = 1 := by
  match w, h with
  | Sum.inl x, _ => rfl
  | Sum.inr (Sum.inr (Sum.inl q)), _ => rfl
  | Sum.inr (Sum.inr (Sum.inr j)), _ =>
    show (od j).category = 1
    rcases hod j with e | ⟨a, e⟩ <;> rw [e] <;> rfl
theorem lv_s1 {ad : Nat → Int → Nat} {od : Nat → Value} (hod : ∀ j, od j = .null ∨ ∃ a, od j = .ref a) {L : aLs} {ls : Array Slot} {n i : Nat} {v : aV} (h : lv_has ls n ((i, conc ad od v) :: (lvOf ad od 0 L).filter (fun q => !(q.1 == i) && !(q.1 + 1 == i && q.2.category == 2)))) : lv_has ls n (lvOf ad od 0 (st1 L i v)) := by
  refine ⟨h.1, h.2.1, fun q hq => h.2.2 q ?_⟩
  obtain ⟨j, w, h1, h2, h3⟩ := lv_mem.mp hq
  rcases st1_nth L i j v w h2 with ⟨a, b⟩ | ⟨a, b, c⟩
  · exact List.mem_cons.mpr (Or.inl (Prod.ext (by simpa [a] using h1) (by rw [h3, b])))
  · refine List.mem_cons.mpr (Or.inr (List.mem_filter.mpr ⟨lv_mem.mpr ⟨j, w, h1, b, h3⟩, ?_⟩))
    have e1 : (q.1 == i) = false := by simpa using (by omega : q.1 ≠ i)
    rw [e1]
    by_cases z : j + 1 = i
    · have := cat_isLg (ad := ad) hod (c z)
      rw [h3, this]; simp
    · have e2 : (q.1 + 1 == i) = false := by simpa using (by omega : q.1 + 1 ≠ i)
      rw [e2]; rfl
theorem lv_s2 {ad : Nat → Int → Nat} {od : Nat → Value} (hod : ∀ j, od j = .null ∨ ∃ a, od j = .ref a) {L : aLs} {ls : Array Slot} {n i : Nat} {v : aV} (h : lv_has ls n ((i, conc ad od v) :: (lvOf ad od 0 L).filter (fun q => !(q.1 == i) && (!(q.1 == i + 1) && !(q.1 + 1 == i && q.2.category == 2))))) : lv_has ls n (lvOf ad od 0 (st2 L i v)) := by
  refine ⟨h.1, h.2.1, fun q hq => h.2.2 q ?_⟩
  obtain ⟨j, w, h1, h2, h3⟩ := lv_mem.mp hq
  rcases st2_nth L i j v w h2 with ⟨a, b⟩ | ⟨a, a2, b, c⟩
  · exact List.mem_cons.mpr (Or.inl (Prod.ext (by simpa [a] using h1) (by rw [h3, b])))
  · refine List.mem_cons.mpr (Or.inr (List.mem_filter.mpr ⟨lv_mem.mpr ⟨j, w, h1, b, h3⟩, ?_⟩))
    have e1 : (q.1 == i) = false := by simpa using (by omega : q.1 ≠ i)
    have e3 : (q.1 == i + 1) = false := by simpa using (by omega : q.1 ≠ i + 1)
    rw [e1, e3]
    by_cases z : j + 1 = i
    · have := cat_isLg (ad := ad) hod (c z)
      rw [h3, this]; simp
    · have e2 : (q.1 + 1 == i) = false := by simpa using (by omega : q.1 + 1 ≠ i)
      rw [e2]; rfl
