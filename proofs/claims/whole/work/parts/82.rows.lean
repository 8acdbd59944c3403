/-! Rows for the constructors. -/
set_option maxRecDepth 100000
def WC : List Cond := [
  .methodLink "PealOfExcuses$Crowd" 3 objectInit,
  .instanceMethod objectInit,
  .code objectInit ⟨#[0xb1]⟩ 1 none,
  .arrayClass .int,
  .fieldLink "PealOfExcuses$Crowd" 9 "PealOfExcuses$Crowd" "kinds" "[I",
  .fieldLink "PealOfExcuses$Crowd" 15 "PealOfExcuses$Crowd" "numbers" "[I",
  .fieldLink "PealOfExcuses$Crowd" 18 "PealOfExcuses$Crowd" "dues" "[I",
  .fieldLink "PealOfExcuses$Crowd" 21 "PealOfExcuses$Crowd" "offs" "[I",
  .arrayClass .boolean,
  .fieldLink "PealOfExcuses$Crowd" 24 "PealOfExcuses$Crowd" "aways" "[Z",
  .fieldLink "PealOfExcuses$Crowd" 28 "PealOfExcuses$Crowd" "rows" "[I",
  .methodLink "PealOfExcuses$Notes" 3 objectInit,
  .fieldLink "PealOfExcuses$Notes" 9 "PealOfExcuses$Notes" "most" "I",
  .fieldLink "PealOfExcuses$Notes" 15 "PealOfExcuses$Notes" "people" "[I",
  .fieldLink "PealOfExcuses$Notes" 19 "PealOfExcuses$Notes" "second" "[I",
  .fieldLink "PealOfExcuses$Notes" 22 "PealOfExcuses$Notes" "days" "[I",
  .methodLink "PealOfExcuses$Town" 3 objectInit,
  .fieldLink "PealOfExcuses$Town" 9 "PealOfExcuses$Town" "loud" "I",
  .fieldLink "PealOfExcuses$Town" 15 "PealOfExcuses$Town" "words" "[I",
  .fieldLink "PealOfExcuses$Town" 19 "PealOfExcuses$Town" "minutes" "[I",
  .fieldLink "PealOfExcuses$Town" 22 "PealOfExcuses$Town" "ends" "[I",
  .fieldLink "PealOfExcuses$Town" 25 "PealOfExcuses$Town" "code" "[I",
  .methodLink "PealOfExcuses$Reader" 3 objectInit,
  .arrayClass .byte,
  .fieldLink "PealOfExcuses$Reader" 9 "PealOfExcuses$Reader" "text" "[B",
  .methodLink "PealOfExcuses$Morning" 3 objectInit,
  .fieldLink "PealOfExcuses$Morning" 9 "PealOfExcuses$Morning" "lags" "[I",
  .fieldLink "PealOfExcuses$Morning" 15 "PealOfExcuses$Morning" "comes" "[I",
  .fieldLink "PealOfExcuses$Morning" 18 "PealOfExcuses$Morning" "rings" "[I",
  .fieldLink "PealOfExcuses$Morning" 21 "PealOfExcuses$Morning" "order" "[I",
  .fieldLink "PealOfExcuses$Morning" 24 "PealOfExcuses$Morning" "punctual" "I",
  .methodLink "PealOfExcuses$Actor" 3 objectInit,
  .fieldLink "PealOfExcuses$Actor" 9 "PealOfExcuses$Actor" "bodies" "[I",
  .methodLink "PealOfExcuses$Tape" 3 objectInit,
  .fieldLink "PealOfExcuses$Tape" 11 "PealOfExcuses$Tape" "sort" "I",
  .arrayClass .long,
  .fieldLink "PealOfExcuses$Tape" 15 "PealOfExcuses$Tape" "items" "[J"]
theorem g_wc : WC.all (fun c => decide (c ∈ lw_tbl) && goodWord c) = true := by decide +kernel
theorem wc_in {k : Nat} {w : Cond} (h : WC[k]? = some w) : w ∈ TW := by
  have := List.all_eq_true.mp g_wc w (List.mem_of_getElem? h)
  rw [Bool.and_eq_true, decide_eq_true_eq] at this
  exact List.mem_filter.mpr this
section
variable {p : Program} {l : Launch} {e : Env} {R : Room} {s : State} {m : MethodId} {args : Array Value} {below : List Frame} {meth : Method} {c : Code} {H : Heap} {locs : List Loc} {cells slots : Nat} {Q : State → Prop}
variable {cc : ByteArray} {pc : Nat} {ls : Array Slot} {rest : List Value} {D : va_G} {cl : List vw_C} {A : Nat → Prop} {tys : List (ClassId × FieldType)} {ws : va_W} {H0 : Heap}
/-- a new array of a type that the world knows -/
theorem nw_a (hx : p.tables.exec = Jvm.exec) (hb : c.code = cc) {atype : ArrayType} (harr : (Cond.arrayClass (newarray.typeOf atype)).before args s = true) {ty : FieldType} (hty : newarray.typeOf atype = ty) (hK : va_K D cl tys s) {t0 : Nat} {cA : ClassId} (ht : tys[t0]? = some (cA, ty)) (hP : va_P D cl ws H) (hD : va_D A ws) (hS : va_S A H0 H locs) (hA : ∀ q, H0.size ≤ q → A q)
    {n : Int32} {N' : Nat} {a0 : vp_A} (ha : ∀ cA : ClassId, vp_cell cA a0 = arrV cA N' (fun _ => defaultValue ty)) (hn : ¬ n < 0) (hN : n.toNatClampNeg = N') (hbytes : N' * componentBytes ty ≤ 536870912) (hcells : cells + 1 ≤ R.cells) (hslots : slots + N' ≤ R.slots) (hdg : decode cc pc = .ok (.newarray atype, 2))
    (kk : ∀ (q : Nat) (H1 : Heap), va_P D cl (ws ++ [(q, .inl (cA, a0))]) H1 → va_D A (ws ++ [(q, .inl (cA, a0))]) → va_S A H0 H1 locs →
      W p l e R s m args below meth c H1 locs (cells + 1) (slots + N') Q (F0 m (pc + 2) ls (.ref q :: rest))) : W p l e R s m args below meth c H locs cells slots Q (F0 m pc ls (.int n :: rest)) := by
  refine va_newa hx hb harr hty hK hP hD hS hA ha hn hN hbytes hcells hslots hdg (fun q cA' H1 hK' hP' hD' hS' => ?_)
  have e := ra_eq (hK.2 t0 _ ht).2 (hK'.2 tys.length (cA', ty) (by simp)).2
  subst e
  exact kk q H1 hP' hD' hS'
theorem nw_q (hx : p.tables.exec = Jvm.exec) (hb : c.code = cc) {own C : String} {index : Nat} (hown : s.vm.findClass own = some m.cls) (hclink : (Cond.classLink own index C).before args s = true) (hover : va_AO C s) (hK : va_K D cl tys s) {t0 : Nat} {cA : ClassId} (ht : tys[t0]? = some (cA, .object C)) (hP : va_P D cl ws H) (hD : va_D A ws) (hS : va_S A H0 H locs) (hA : ∀ q, H0.size ≤ q → A q)
    {n : Int32} {N' : Nat} (hn : ¬ n < 0) (hN : n.toNatClampNeg = N') (hbytes : N' * 4 ≤ 536870912) (hcells : cells + 1 ≤ R.cells) (hslots : slots + N' ≤ R.slots) (hdg : decode cc pc = .ok (.anewarray index, 3))
    (kk : ∀ (q : Nat) (H1 : Heap), va_P D cl (ws ++ [(q, .inl (cA, N', .inr (.inr (.inr (.inr (fun _ => none))))))]) H1 → va_D A (ws ++ [(q, .inl (cA, N', .inr (.inr (.inr (.inr (fun _ => none))))))]) → va_S A H0 H1 locs →
      W p l e R s m args below meth c H1 locs (cells + 1) (slots + N') Q (F0 m (pc + 3) ls (.ref q :: rest))) : W p l e R s m args below meth c H locs cells slots Q (F0 m pc ls (.int n :: rest)) := by
  refine va_newq hx hb hown hclink hover hK hP hD hS hA hn hN hbytes hcells hslots hdg (fun q cA' H1 hK' hP' hD' hS' => ?_)
  have e := ra_eq (hK.2 t0 _ ht).2 (hK'.2 tys.length (cA', .object C) (by simp)).2
  subst e
  exact kk q H1 hP' hD' hS'
end
