/-! The classes, as the tables have them. -/
set_option maxRecDepth 100000
def I81 : List Cond := vwCl.map (fun q => Cond.instantiable q.1 q.2.2)
theorem g_i : I81.all (fun c => decide (c ∈ lw_tbl)) = true := by decide +kernel
def A81 : List Cond := [.arrayClass .int, .arrayClass .boolean, .arrayClass .byte, .arrayClass .long, .arrayOver (.object "PealOfExcuses$Town"), .arrayOver (.object "PealOfExcuses$Tape")]
theorem g_a81 : A81.all (fun c => decide (c ∈ lw_tbl)) = true := by decide +kernel
theorem kn_cls {s : State} {args : Array Value} (hts : ∀ w ∈ lw_tbl, w.before args s = true) : ∃ D : va_G, ∀ (k : Nat) (q : vw_C), vwCl[k]? = some q → u_Kn s q.1 q.2.1 q.2.2 (D.1 k) (D.2 k) := by
  have h : ∀ k : Nat, ∃ x : ClassId × (Nat → Nat), ∀ q : vw_C, vwCl[k]? = some q → u_Kn s q.1 q.2.1 q.2.2 x.1 x.2 := by
    intro k
    cases hq : vwCl[k]? with
    | none => exact ⟨(0, fun _ => 0), fun q h => by cases h⟩
    | some q =>
      obtain ⟨C, T, N⟩ := q
      have hi : (Cond.instantiable C N).before args s = true := hts _ (all_in g_i (k := k) (by show (vwCl.map _)[k]? = _; rw [List.getElem?_map, hq]; rfl))
      obtain ⟨cC, iS, hK⟩ := u_known (C := C) (T := T) (N := N) (n := N) hts (fun w hw => (List.mem_filter.mp (hin_at hq w hw)).1) hi
      exact ⟨(cC, iS), fun q' h => by cases h; exact hK⟩
  obtain ⟨f, hf⟩ := Classical.axiomOfChoice h
  exact ⟨(fun k => (f k).1, fun k => (f k).2), fun k q hq => hf k q hq⟩
theorem kn_arr {s : State} {args : Array Value} {ty : FieldType} (h : (Cond.arrayClass ty).before args s = true) (hty : ∀ C, ty ≠ .object C) : ∃ cA : ClassId, ArrOfT s cA ty ∧ va_RA s cA ty := by
  obtain ⟨cA, kA, comp, h1, h2, h3⟩ := Cond.arrayClass_spec h
  refine ⟨cA, fun n z => ⟨fun k h => (by cases h), kA, h2, comp, h3⟩, ?_⟩
  cases ty with
  | object C => exact absurd rfl (hty C)
  | _ => exact h1
theorem kn_arq {s : State} {args : Array Value} {C : String} (h : (Cond.arrayOver (.object C)).before args s = true) : ∃ cA : ClassId, ArrOfT s cA (.object C) ∧ va_RA s cA (.object C) := by
  obtain ⟨comp, c, k, h1, h2, h3, h4, h5⟩ := Cond.arrayOver_spec h
  exact ⟨c, fun n z => ⟨fun k h => (by cases h), k, h3, comp, h4⟩, k, comp, h3, h4, h1, h5⟩
theorem known {s : State} {args : Array Value} (hts : ∀ w ∈ lw_tbl, w.before args s = true) : ∃ (D : va_G) (cA : Nat → ClassId), va_K D vwCl (tysOf cA) s := by
  obtain ⟨D, hD⟩ := kn_cls hts
  obtain ⟨c0, h0⟩ := kn_arr (hts _ (all_in g_a81 (k := 0) rfl)) (fun C z => by cases z)
  obtain ⟨c1, h1⟩ := kn_arr (hts _ (all_in g_a81 (k := 1) rfl)) (fun C z => by cases z)
  obtain ⟨c2, h2⟩ := kn_arr (hts _ (all_in g_a81 (k := 2) rfl)) (fun C z => by cases z)
  obtain ⟨c3, h3⟩ := kn_arr (hts _ (all_in g_a81 (k := 3) rfl)) (fun C z => by cases z)
  obtain ⟨c4, h4⟩ := kn_arq (hts _ (all_in g_a81 (k := 4) rfl))
  obtain ⟨c5, h5⟩ := kn_arq (hts _ (all_in g_a81 (k := 5) rfl))
  refine ⟨D, fun k => if k = 0 then c0 else if k = 1 then c1 else if k = 2 then c2 else if k = 3 then c3 else if k = 4 then c4 else c5, hD, fun k q hk => ?_⟩
  match k, hk with
  | 0, hk => cases hk; exact h0
  | 1, hk => cases hk; exact h1
  | 2, hk => cases hk; exact h2
  | 3, hk => cases hk; exact h3
  | 4, hk => cases hk; exact h4
  | 5, hk => cases hk; exact h5
  | k + 6, hk => simp [tysOf] at hk
/-- an array's class is the one that the name finds -/
theorem ra_eq {s : State} {c c' : ClassId} {ty : FieldType} (h : va_RA s c ty) (h' : va_RA s c' ty) : c' = c := by
  cases ty with
  | object C =>
    obtain ⟨_, _, _, _, _, h4⟩ := h
    obtain ⟨_, _, _, _, _, h4'⟩ := h'
    rw [h4] at h4'; cases h4'; rfl
  | _ => exact Option.some.inj (Eq.trans (Eq.symm h') h)
