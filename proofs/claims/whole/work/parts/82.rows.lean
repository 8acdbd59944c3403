/-! Rows for the constructors. -/
set_option maxRecDepth 100000
def WC : List Cond := [
  .methodLink "PealOfExcuses$Crowd" 3 objectInit,
  .instanceMethod objectInit,
  .code objectInit ⟨#[0xb1]⟩ 1 none,
  .arrayClass .int,
  .fieldLink "PealOfExcuses$Crowd" 9 "PealOfExcuses$Crowd" "kinds" "[I",
  .fieldLink "PealOfExcuses$Crowd" 15 "PealOfExcuses$Crowd" "numbers" "[I",
  .fieldLink "PealOfExcuses$Crowd" 18 "PealOfExcuses$Crowd" "dues" "[I",
  .fieldLink "PealOfExcuses$Crowd" 21 "PealOfExcuses$Crowd" "offs" "[I",
  .arrayClass .boolean,
  .fieldLink "PealOfExcuses$Crowd" 24 "PealOfExcuses$Crowd" "aways" "[Z",
  .fieldLink "PealOfExcuses$Crowd" 28 "PealOfExcuses$Crowd" "rows" "[I",
  .methodLink "PealOfExcuses$Notes" 3 objectInit,
  .fieldLink "PealOfExcuses$Notes" 9 "PealOfExcuses$Notes" "most" "I",
  .fieldLink "PealOfExcuses$Notes" 15 "PealOfExcuses$Notes" "people" "[I",
  .fieldLink "PealOfExcuses$Notes" 19 "PealOfExcuses$Notes" "second" "[I",
  .fieldLink "PealOfExcuses$Notes" 22 "PealOfExcuses$Notes" "days" "[I",
  .methodLink "PealOfExcuses$Town" 3 objectInit,
  .fieldLink "PealOfExcuses$Town" 9 "PealOfExcuses$Town" "loud" "I",
  .fieldLink "PealOfExcuses$Town" 15 "PealOfExcuses$Town" "words" "[I",
  .fieldLink "PealOfExcuses$Town" 19 "PealOfExcuses$Town" "minutes" "[I",
  .fieldLink "PealOfExcuses$Town" 22 "PealOfExcuses$Town" "ends" "[I",
  .fieldLink "PealOfExcuses$Town" 25 "PealOfExcuses$Town" "code" "[I",
  .methodLink "PealOfExcuses$Reader" 3 objectInit,
  .arrayClass .byte,
  .fieldLink "PealOfExcuses$Reader" 9 "PealOfExcuses$Reader" "text" "[B",
  .methodLink "PealOfExcuses$Morning" 3 objectInit,
  .fieldLink "PealOfExcuses$Morning" 9 "PealOfExcuses$Morning" "lags" "[I",
  .fieldLink "PealOfExcuses$Morning" 15 "PealOfExcuses$Morning" "comes" "[I",
  .fieldLink "PealOfExcuses$Morning" 18 "PealOfExcuses$Morning" "rings" "[I",
  .fieldLink "PealOfExcuses$Morning" 21 "PealOfExcuses$Morning" "order" "[I",
  .fieldLink "PealOfExcuses$Morning" 24 "PealOfExcuses$Morning" "punctual" "I",
  .methodLink "PealOfExcuses$Actor" 3 objectInit,
  .fieldLink "PealOfExcuses$Actor" 9 "PealOfExcuses$Actor" "bodies" "[I",
  .methodLink "PealOfExcuses$Tape" 3 objectInit,
  .fieldLink "PealOfExcuses$Tape" 11 "PealOfExcuses$Tape" "sort" "I",
  .arrayClass .long,
  .fieldLink "PealOfExcuses$Tape" 15 "PealOfExcuses$Tape" "items" "[J",
  .fieldLink "PealOfExcusesModel" 7 "PealOfExcusesModel" "people" "I",
  .fieldLink "PealOfExcusesModel" 13 "PealOfExcusesModel" "days" "I",
  .fieldLink "PealOfExcusesModel" 16 "PealOfExcusesModel" "gone0" "I",
  .fieldLink "PealOfExcusesModel" 19 "PealOfExcusesModel" "kind" "[I",
  .fieldLink "PealOfExcusesModel" 23 "PealOfExcusesModel" "v" "[I",
  .fieldLink "PealOfExcusesModel" 26 "PealOfExcusesModel" "dueAt" "[I",
  .fieldLink "PealOfExcusesModel" 29 "PealOfExcusesModel" "ahead" "[I",
  .fieldLink "PealOfExcusesModel" 32 "PealOfExcusesModel" "rows" "[I",
  .fieldLink "PealOfExcusesModel" 35 "PealOfExcusesModel" "towns" "I",
  .fieldLink "PealOfExcusesModel" 38 "PealOfExcusesModel" "the" "I",
  .fieldLink "PealOfExcusesModel" 41 "PealOfExcusesModel" "fed" "I",
  .fieldLink "PealOfExcusesModel" 44 "PealOfExcusesModel" "at" "I",
  .fieldLink "PealOfExcusesModel" 47 "PealOfExcusesModel" "digits" "I",
  .fieldLink "PealOfExcusesModel" 50 "PealOfExcusesModel" "text" "[I",
  .fieldLink "PealOfExcusesModel" 53 "PealOfExcusesModel" "clauses" "[I",
  .fieldLink "PealOfExcusesModel" 56 "PealOfExcusesModel" "word" "[I",
  .fieldLink "PealOfExcusesModel" 59 "PealOfExcusesModel" "number" "[I",
  .fieldLink "PealOfExcusesModel" 62 "PealOfExcusesModel" "from" "[I",
  .fieldLink "PealOfExcusesModel" 65 "PealOfExcusesModel" "to" "[I",
  .fieldLink "PealOfExcusesModel" 68 "PealOfExcusesModel" "sign" "[I",
  .fieldLink "PealOfExcusesModel" 71 "PealOfExcusesModel" "waits" "[I",
  .fieldLink "PealOfExcusesModel" 74 "PealOfExcusesModel" "signs" "I",
  .fieldLink "PealOfExcusesModel" 77 "PealOfExcusesModel" "waiting" "I",
  .fieldLink "PealOfExcusesModel" 80 "PealOfExcusesModel" "open" "I",
  .fieldLink "PealOfExcusesModel" 83 "PealOfExcusesModel" "letters" "[I",
  .fieldLink "PealOfExcusesModel" 86 "PealOfExcusesModel" "promptInMind" "I",
  .fieldLink "PealOfExcusesModel" 89 "PealOfExcusesModel" "pile" "[Z",
  .fieldLink "PealOfExcusesModel" 93 "PealOfExcusesModel" "anySet" "Z",
  .fieldLink "PealOfExcusesModel" 97 "PealOfExcusesModel" "comesAt" "[I",
  .fieldLink "PealOfExcusesModel" 100 "PealOfExcusesModel" "ringsFor" "[I",
  .fieldLink "PealOfExcusesModel" 103 "PealOfExcusesModel" "rung" "[Z",
  .fieldLink "PealOfExcusesModel" 106 "PealOfExcusesModel" "keptDays" "I",
  .fieldLink "PealOfExcusesModel" 109 "PealOfExcusesModel" "keptGone" "I",
  .fieldLink "PealOfExcusesModel" 112 "PealOfExcusesModel" "keptDue" "[I",
  .fieldLink "PealOfExcusesModel" 115 "PealOfExcusesModel" "keptAhead" "[I",
  .fieldLink "PealOfExcusesModel" 118 "PealOfExcusesModel" "seen" "I",
  .fieldLink "PealOfExcusesModel" 121 "PealOfExcusesModel" "seenWho" "[I",
  .fieldLink "PealOfExcusesModel" 124 "PealOfExcusesModel" "seenOff" "[I",
  .fieldLink "PealOfExcusesModel" 127 "PealOfExcusesModel" "seenWhen" "[I",
  .fieldLink "PealOfExcusesModel" 130 "PealOfExcusesModel" "weeks" "I",
  .fieldLink "PealOfExcusesModel" 133 "PealOfExcusesModel" "books" "I",
  .fieldLink "PealOfExcusesModel" 136 "PealOfExcusesModel" "weekWhat" "[I",
  .fieldLink "PealOfExcusesModel" 139 "PealOfExcusesModel" "weekWho" "[I",
  .fieldLink "PealOfExcusesModel" 142 "PealOfExcusesModel" "bookWho" "[I",
  .fieldLink "PealOfExcusesModel" 145 "PealOfExcusesModel" "bookOff" "[I",
  .fieldLink "PealOfExcusesModel" 148 "PealOfExcusesModel" "hasImage" "Z",
  .fieldLink "PealOfExcusesModel" 151 "PealOfExcusesModel" "imageThe" "I",
  .fieldLink "PealOfExcusesModel" 154 "PealOfExcusesModel" "imagePeople" "I",
  .fieldLink "PealOfExcusesModel" 157 "PealOfExcusesModel" "imageDays" "I",
  .fieldLink "PealOfExcusesModel" 160 "PealOfExcusesModel" "imageGone" "I",
  .fieldLink "PealOfExcusesModel" 163 "PealOfExcusesModel" "imageSeen" "I",
  .fieldLink "PealOfExcusesModel" 166 "PealOfExcusesModel" "imageWeeks" "I",
  .fieldLink "PealOfExcusesModel" 169 "PealOfExcusesModel" "imageBooks" "I",
  .fieldLink "PealOfExcusesModel" 172 "PealOfExcusesModel" "imageKind" "[I",
  .fieldLink "PealOfExcusesModel" 175 "PealOfExcusesModel" "imageV" "[I",
  .fieldLink "PealOfExcusesModel" 178 "PealOfExcusesModel" "imageDue" "[I",
  .fieldLink "PealOfExcusesModel" 181 "PealOfExcusesModel" "imageAhead" "[I",
  .fieldLink "PealOfExcusesModel" 184 "PealOfExcusesModel" "imageRows" "[I",
  .fieldLink "PealOfExcusesModel" 187 "PealOfExcusesModel" "imageWho" "[I",
  .fieldLink "PealOfExcusesModel" 190 "PealOfExcusesModel" "imageSeenOff" "[I",
  .fieldLink "PealOfExcusesModel" 193 "PealOfExcusesModel" "imageWhen" "[I",
  .fieldLink "PealOfExcusesModel" 196 "PealOfExcusesModel" "imageWhat" "[I",
  .fieldLink "PealOfExcusesModel" 199 "PealOfExcusesModel" "imageWeekWho" "[I",
  .fieldLink "PealOfExcusesModel" 202 "PealOfExcusesModel" "imageBookWho" "[I",
  .fieldLink "PealOfExcusesModel" 205 "PealOfExcusesModel" "imageBookOff" "[I",
  .fieldLink "PealOfExcusesModel" 208 "PealOfExcusesModel" "ran" "I",
  .fieldLink "PealOfExcusesModel" 211 "PealOfExcusesModel" "bodies" "[I",
  .fieldLink "PealOfExcusesModel" 214 "PealOfExcusesModel" "sort" "[I",
  .fieldLink "PealOfExcusesModel" 217 "PealOfExcusesModel" "length" "[I",
  .fieldLink "PealOfExcusesModel" 220 "PealOfExcusesModel" "item" "[J",
  .fieldLink "PealOfExcusesModel" 224 "PealOfExcusesModel" "aside" "[J",
  .methodLink "PealOfExcusesModel" 1 objectInit]
theorem g_wc : WC.all (fun c => decide (c ∈ lw_tbl) && goodWord c) = true := by decide +kernel
theorem wc_in {k : Nat} {w : Cond} (h : WC[k]? = some w) : w ∈ TW := by
  have := List.all_eq_true.mp g_wc w (List.mem_of_getElem? h)
  rw [Bool.and_eq_true, decide_eq_true_eq] at this
  exact List.mem_filter.mpr this
section
variable {p : Program} {l : Launch} {e : Env} {R : Room} {s : State} {m : MethodId} {args : Array Value} {below : List Frame} {meth : Method} {c : Code} {H : Heap} {locs : List Loc} {cells slots : Nat} {Q : State → Prop}
variable {cc : ByteArray} {pc : Nat} {ls : Array Slot} {rest : List Value} {D : va_G} {cl : List vw_C} {A : Nat → Prop} {tys : List (ClassId × FieldType)} {ws : va_W} {H0 : Heap}
/-- a new array of a type that the world knows -/
theorem nw_a (hx : p.tables.exec = Jvm.exec) (hb : c.code = cc) {atype : ArrayType} (harr : (Cond.arrayClass (newarray.typeOf atype)).before args s = true) {ty : FieldType} (hty : newarray.typeOf atype = ty) (hK : va_K D cl tys s) {t0 : Nat} {cA : ClassId} (ht : tys[t0]? = some (cA, ty)) (hP : va_P D cl ws H) (hD : va_D A ws) (hS : va_S A H0 H locs) (hA : ∀ q, H0.size ≤ q → A q)
    {n : Int32} {N' : Nat} {a0 : vp_A} (ha : ∀ cA : ClassId, vp_cell cA a0 = arrV cA N' (fun _ => defaultValue ty)) (hn : ¬ n < 0) (hN : n.toNatClampNeg = N') (hbytes : N' * componentBytes ty ≤ 536870912) (hcells : cells + 1 ≤ R.cells) (hslots : slots + N' ≤ R.slots) (hdg : decode cc pc = .ok (.newarray atype, 2))
    (kk : ∀ (q : Nat) (H1 : Heap), va_P D cl (ws ++ [(q, .inl (cA, a0))]) H1 → va_D A (ws ++ [(q, .inl (cA, a0))]) → va_S A H0 H1 locs →
      W p l e R s m args below meth c H1 locs (cells + 1) (slots + N') Q (F0 m (pc + 2) ls (.ref q :: rest))) : W p l e R s m args below meth c H locs cells slots Q (F0 m pc ls (.int n :: rest)) := by
  refine va_newa hx hb harr hty hK hP hD hS hA ha hn hN hbytes hcells hslots hdg (fun q cA' H1 hK' hP' hD' hS' => ?_)
  have e := ra_eq (hK.2 t0 _ ht).2 (hK'.2 tys.length (cA', ty) (by simp)).2
  subst e
  exact kk q H1 hP' hD' hS'
theorem nw_q (hx : p.tables.exec = Jvm.exec) (hb : c.code = cc) {own C : String} {index : Nat} (hown : s.vm.findClass own = some m.cls) (hclink : (Cond.classLink own index C).before args s = true) (hover : va_AO C s) (hK : va_K D cl tys s) {t0 : Nat} {cA : ClassId} (ht : tys[t0]? = some (cA, .object C)) (hP : va_P D cl ws H) (hD : va_D A ws) (hS : va_S A H0 H locs) (hA : ∀ q, H0.size ≤ q → A q)
    {n : Int32} {N' : Nat} (hn : ¬ n < 0) (hN : n.toNatClampNeg = N') (hbytes : N' * 4 ≤ 536870912) (hcells : cells + 1 ≤ R.cells) (hslots : slots + N' ≤ R.slots) (hdg : decode cc pc = .ok (.anewarray index, 3))
    (kk : ∀ (q : Nat) (H1 : Heap), va_P D cl (ws ++ [(q, .inl (cA, N', .inr (.inr (.inr (.inr (fun _ => none))))))]) H1 → va_D A (ws ++ [(q, .inl (cA, N', .inr (.inr (.inr (.inr (fun _ => none))))))]) → va_S A H0 H1 locs →
      W p l e R s m args below meth c H1 locs (cells + 1) (slots + N') Q (F0 m (pc + 3) ls (.ref q :: rest))) : W p l e R s m args below meth c H locs cells slots Q (F0 m pc ls (.int n :: rest)) := by
  refine va_newq hx hb hown hclink hover hK hP hD hS hA hn hN hbytes hcells hslots hdg (fun q cA' H1 hK' hP' hD' hS' => ?_)
  have e := ra_eq (hK.2 t0 _ ht).2 (hK'.2 tys.length (cA', .object C) (by simp)).2
  subst e
  exact kk q H1 hP' hD' hS'
end
