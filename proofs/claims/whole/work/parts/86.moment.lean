/-! A moment's constructor. -/
set_option maxRecDepth 100000
def WC2 : List Cond := [
  .methodLink "PealOfExcuses$Moment" 3 objectInit,
  .instanceMethod objectInit,
  .code objectInit ⟨#[0xb1]⟩ 1 none,
  .classLink "PealOfExcuses$Moment" 9 "PealOfExcuses$Crowd",
  .instantiable "PealOfExcuses$Crowd" 8,
  .initialized "PealOfExcuses$Crowd",
  .code ⟨"PealOfExcuses$Crowd", "<init>", "()V"⟩ prog_3_method_1_code 1 none,
  .instanceMethod ⟨"PealOfExcuses$Crowd", "<init>", "()V"⟩,
  .fieldLink "PealOfExcuses$Moment" 12 "PealOfExcuses$Moment" "crowd" "LPealOfExcuses$Crowd;",
  .methodLink "PealOfExcuses$Moment" 20 ⟨"PealOfExcuses$Notes", "<init>", "(I)V"⟩,
  .classLink "PealOfExcuses$Moment" 18 "PealOfExcuses$Notes",
  .instantiable "PealOfExcuses$Notes" 5,
  .initialized "PealOfExcuses$Notes",
  .code ⟨"PealOfExcuses$Notes", "<init>", "(I)V"⟩ prog_6_method_1_code 2 none,
  .instanceMethod ⟨"PealOfExcuses$Notes", "<init>", "(I)V"⟩,
  .fieldLink "PealOfExcuses$Moment" 23 "PealOfExcuses$Moment" "seen" "LPealOfExcuses$Notes;",
  .fieldLink "PealOfExcuses$Moment" 27 "PealOfExcuses$Moment" "week" "LPealOfExcuses$Notes;",
  .fieldLink "PealOfExcuses$Moment" 30 "PealOfExcuses$Moment" "book" "LPealOfExcuses$Notes;",
  .fieldLink "PealOfExcuses$Moment" 33 "PealOfExcuses$Moment" "holding" "I"]
theorem g_wc2 : WC2.all (fun c => decide (c ∈ lw_tbl) && goodWord c) = true := by decide +kernel
theorem wc2_in {k : Nat} {w : Cond} (h : WC2[k]? = some w) : w ∈ TW := by
  have := List.all_eq_true.mp g_wc2 w (List.mem_of_getElem? h)
  rw [Bool.and_eq_true, decide_eq_true_eq] at this
  exact List.mem_filter.mpr this
def NWm (U : State) : Prop := va_Nw (.methodLinkNest "PealOfExcuses$Moment" 11 ⟨"PealOfExcuses$Crowd", "<init>", "()V"⟩ "PealOfExcuses") U
theorem hfs1 : ∀ j, j < 8 → defaultValue (tyX1 j) = vp_V [.int 0, .int 0, .null, .null, .null, .null, .null, .null] j := by decide +kernel
theorem hfs4 : ∀ j, j < 5 → defaultValue (tyX4 j) = vp_V [.int 0, .int 0, .null, .null, .null] j := by decide +kernel
theorem hfs7 : ∀ j, j < 8 → defaultValue (tyX7 j) = vp_V [.int 0, .int 0, .int 0, .int 0, .null, .null, .null, .null] j := by decide +kernel
theorem hfs5 : ∀ j, j < 3 → defaultValue (tyX5 j) = vp_V [.null, .int 0, .int 0] j := by decide +kernel
theorem hfs3 : ∀ j, j < 7 → defaultValue (tyX3 j) = vp_V [.null, .null, .null, .null, .int 0, .int 0, .int 0] j := by decide +kernel
theorem hfs0 : ∀ j, j < 5 → defaultValue (tyX0 j) = vp_V [.null, .int 0, .int 0, .int 0, .int 0] j := by decide +kernel
theorem hfs6 : ∀ j, j < 3 → defaultValue (tyX6 j) = vp_V [.int 0, .int 0, .null] j := by decide +kernel
theorem hfs2 : ∀ j, j < 5 → defaultValue (tyX2 j) = vp_V [.null, .null, .null, .null, .int 0] j := by decide +kernel
theorem hfs8 : ∀ j, j < 11 → defaultValue (tyX8 j) = vp_V [.null, .null, .int 0, .null, .null, .int 0, .null, .null, .null, .null, .null] j := by decide +kernel
theorem hfs9 : ∀ j, j < 71 → defaultValue (tyX9 j) = vp_V [.int 0, .int 0, .int 0, .null, .null, .null, .null, .null, .int 0, .int 0, .int 0, .int 0, .int 0, .null, .null, .null, .null, .null, .null, .null, .null, .int 0, .int 0, .int 0, .null, .int 0, .null, .int 0, .null, .null, .null, .int 0, .int 0, .null, .null, .int 0, .null, .null, .null, .int 0, .int 0, .null, .null, .null, .null, .int 0, .int 0, .int 0, .int 0, .int 0, .int 0, .int 0, .int 0, .null, .null, .null, .null, .null, .null, .null, .null, .null, .null, .null, .null, .int 0, .null, .null, .null, .null, .null] j := by decide +kernel
theorem dk_Moment_0 : decode prog_4_method_1_code 0 = .ok (.aload_n 0, 1) := by decide +kernel
theorem dk_Moment_1 : decode prog_4_method_1_code 1 = .ok (.invokespecial 3, 3) := by decide +kernel
theorem dk_Moment_4 : decode prog_4_method_1_code 4 = .ok (.aload_n 0, 1) := by decide +kernel
theorem dk_Moment_5 : decode prog_4_method_1_code 5 = .ok (.new 9, 3) := by decide +kernel
theorem dk_Moment_8 : decode prog_4_method_1_code 8 = .ok (.dup, 1) := by decide +kernel
theorem dk_Moment_9 : decode prog_4_method_1_code 9 = .ok (.invokespecial 11, 3) := by decide +kernel
theorem dk_Moment_12 : decode prog_4_method_1_code 12 = .ok (.putfield 12, 3) := by decide +kernel
theorem dk_Moment_15 : decode prog_4_method_1_code 15 = .ok (.aload_n 0, 1) := by decide +kernel
theorem dk_Moment_16 : decode prog_4_method_1_code 16 = .ok (.new 18, 3) := by decide +kernel
theorem dk_Moment_19 : decode prog_4_method_1_code 19 = .ok (.dup, 1) := by decide +kernel
theorem dk_Moment_20 : decode prog_4_method_1_code 20 = .ok (.iconst 5, 1) := by decide +kernel
theorem dk_Moment_21 : decode prog_4_method_1_code 21 = .ok (.invokespecial 20, 3) := by decide +kernel
theorem dk_Moment_24 : decode prog_4_method_1_code 24 = .ok (.putfield 23, 3) := by decide +kernel
theorem dk_Moment_27 : decode prog_4_method_1_code 27 = .ok (.aload_n 0, 1) := by decide +kernel
theorem dk_Moment_28 : decode prog_4_method_1_code 28 = .ok (.new 18, 3) := by decide +kernel
theorem dk_Moment_31 : decode prog_4_method_1_code 31 = .ok (.dup, 1) := by decide +kernel
theorem dk_Moment_32 : decode prog_4_method_1_code 32 = .ok (.bipush 10, 2) := by decide +kernel
theorem dk_Moment_34 : decode prog_4_method_1_code 34 = .ok (.invokespecial 20, 3) := by decide +kernel
theorem dk_Moment_37 : decode prog_4_method_1_code 37 = .ok (.putfield 27, 3) := by decide +kernel
theorem dk_Moment_40 : decode prog_4_method_1_code 40 = .ok (.aload_n 0, 1) := by decide +kernel
theorem dk_Moment_41 : decode prog_4_method_1_code 41 = .ok (.new 18, 3) := by decide +kernel
theorem dk_Moment_44 : decode prog_4_method_1_code 44 = .ok (.dup, 1) := by decide +kernel
theorem dk_Moment_45 : decode prog_4_method_1_code 45 = .ok (.bipush 8, 2) := by decide +kernel
theorem dk_Moment_47 : decode prog_4_method_1_code 47 = .ok (.invokespecial 20, 3) := by decide +kernel
theorem dk_Moment_50 : decode prog_4_method_1_code 50 = .ok (.putfield 30, 3) := by decide +kernel
theorem dk_Moment_53 : decode prog_4_method_1_code 53 = .ok (.aload_n 0, 1) := by decide +kernel
theorem dk_Moment_54 : decode prog_4_method_1_code 54 = .ok (.iconst (-1), 1) := by decide +kernel
theorem dk_Moment_55 : decode prog_4_method_1_code 55 = .ok (.putfield 33, 3) := by decide +kernel
theorem dk_Moment_58 : decode prog_4_method_1_code 58 = .ok (.return_, 1) := by decide +kernel
def MX2 (p : Program) (s : State) (m : MethodId) (meth : Method) (c : Code) (args : Array Value) (D : va_G) (cA : Nat → ClassId) (A : Nat → Prop) (H0 : Heap) : Prop := p.tables.exec = Jvm.exec ∧ c.code = prog_4_method_1_code ∧ (∀ w ∈ TW, w.before args s = true) ∧ s.vm.findClass RX2 = some m.cls ∧ va_K D vwCl (tysOf cA) s ∧ (∀ q, H0.size ≤ q → A q) ∧ meth.name = "<init>"
theorem put2 {p : Program} {l : Launch} {e : Env} {R : Room} {s : State} {m : MethodId} {args : Array Value} {below : List Frame} {meth : Method} {c : Code} {H H0 : Heap} {locs : List Loc} {cells slots : Nat} {Q : State → Prop} {ls : Array Slot} {D : va_G} {cA : Nat → ClassId} {A : Nat → Prop} {h0 pc : Nat} {fs : List Value} {as : va_W} (X : MX2 p s m meth c args D cA A H0) {k index : Nat} {ty : FieldType} {v : Value} (hk : k < 5) (hw : Cond.fieldLink RX2 index RX2 (TX2 k).2.1 (TX2 k).2.2.1 ∈ TW) (hP : va_P D vwCl ((h0, .inr (2, fs)) :: as) H) (hD : va_D A ((h0, .inr (2, fs)) :: as)) (hS : va_S A H0 H locs) (hlen : fs.length = 5) (hdecl : (TX2 k).1 = RX2) (hd : parseFieldDescriptor (TX2 k).2.2.1 = some ty) (hn : narrow ty v = v) (hfit : fits ty v = true) (hdg : decode prog_4_method_1_code pc = .ok (.putfield index, 3)) {rest : List Value} (hfin : (TX2 k).2.2.2 = true ∨ (TX2 k).2.2.2 = false)
    (kk : ∀ H locs, va_P D vwCl ((h0, .inr (2, fs.set k v)) :: as) H → va_D A ((h0, .inr (2, fs.set k v)) :: as) → va_S A H0 H locs → W p l e R s m args below meth c H locs cells slots Q (F0 m (pc + 3) ls rest)) : W p l e R s m args below meth c H locs cells slots Q (F0 m pc ls (v :: .ref h0 :: rest)) := by
  obtain ⟨hx, hb, hts, hown, hK, hA, hin⟩ := X
  rcases hfin with hf | hf
  · refine va_putF (D := D) (ci := 2) (C := RX2) (T := TX2) (N := 5) (own := RX2) (ref := RX2) hx hb hts (hin_at (k := 2) rfl) tyX2 tyX2_ok nmX2 hown hK hP hD hS 0 rfl rfl k hk (hts _ hw) (fun x h9 => hdecl ▸ h9) hf hin hdecl hd hn hfit (by omega) hdg (fun H locs hP hD hS => ?_)
    exact kk H locs hP hD hS
  · refine va_put (D := D) (ci := 2) (C := RX2) (T := TX2) (N := 5) (own := RX2) (ref := RX2) hx hb hts (hin_at (k := 2) rfl) tyX2 tyX2_ok nmX2 hown hK hP hD hS 0 rfl rfl k hk (hts _ hw) (fun x h9 => hdecl ▸ h9) hf hd hn hfit (by omega) hdg (fun H locs hP hD hS => ?_)
    exact kk H locs hP hD hS
abbrev wk_Moment : List Cond := .code ⟨"PealOfExcuses$Moment", "<init>", "()V"⟩ prog_4_method_1_code 1 none :: TW
abbrev ck_Moment (cA : Nat → ClassId) (h0 : Nat) (u : Nat → Nat → Nat) : va_W := (h0, .inr (2, [.ref (u 0 1), .ref (u 0 2), .ref (u 0 3), .ref (u 0 4), .int (-1)])) :: (((([] ++ ck_Crowd cA (u 0 1) (u 1)) ++ ck_Notes cA (u 0 2) 5 5 (u 2)) ++ ck_Notes cA (u 0 3) 10 10 (u 3)) ++ ck_Notes cA (u 0 4) 8 8 (u 4))
theorem ckm_eq (cA : Nat → ClassId) (h0 : Nat) (q1 : Nat) (u1 : Nat → Nat) (q2 : Nat) (u2 : Nat → Nat) (q3 : Nat) (u3 : Nat → Nat) (q4 : Nat) (u4 : Nat → Nat) : ∃ u : Nat → Nat → Nat, ((h0, .inr (2, [.ref q1, .ref q2, .ref q3, .ref q4, .int (-1)])) :: (((([] ++ ck_Crowd cA q1 u1) ++ ck_Notes cA q2 5 5 u2) ++ ck_Notes cA q3 10 10 u3) ++ ck_Notes cA q4 8 8 u4) : va_W) = ck_Moment cA h0 u := ⟨fun a b => match a with | 0 => ([0, q1, q2, q3, q4] : List Nat).getD b 0 | 1 => u1 b | 2 => u2 b | 3 => u3 b | 4 => u4 b | _ => 0, rfl⟩
set_option maxHeartbeats 8000000 in
theorem k_Moment (l : Launch) (D : va_G) (cA : Nat → ClassId) (h0 sz : Nat) : Met l ⟨"PealOfExcuses$Moment", "<init>", "()V"⟩ wk_Moment ({ frames := 2, cells := 19, slots := 146, locals := 40 }) (va_Pc [.ref h0] (fun U => U.heap.size = sz ∧ va_P D vwCl [(h0, .inr (2, [.null, .null, .null, .null, .int 0]))] U.heap ∧ (va_K D vwCl (tysOf cA) U ∧ NWm U) ∧ va_D (fun _ => True) [(h0, .inr (2, [.null, .null, .null, .null, .int 0]))])) (va_Qv (fun _ : Nat → Nat → Nat => True) (fun u t => va_P D vwCl (ck_Moment cA h0 u) t.heap ∧ va_K D vwCl (tysOf cA) t ∧ va_D (va_A [(h0, .inr (2, [.null, .null, .null, .null, .int 0]))] sz) (ck_Moment cA h0 u)) (va_A [(h0, .inr (2, [.null, .null, .null, .null, .int 0]))] sz)) 19 146 (va_A [(h0, .inr (2, [.null, .null, .null, .null, .int 0]))] sz) := by
  refine Met.ofW (cc := prog_4_method_1_code) (maxL := 1) (ret := none) (by decide) rfl ?_
  intro p e s m args below meth c s₁ B hml hv
  obtain ⟨rfl, hsz, hP, ⟨hK, hNm⟩, hD0⟩ := hv
  have hx := B.exec
  have hb := B.bytes
  have hr := B.returns
  have hts : ∀ w ∈ TW, w.before [.ref h0].toArray s = true := fun w hw => atoms_spec (ws := wk_Moment) B.pre w (List.mem_cons_of_mem _ hw)
  have hown : s.vm.findClass RX2 = some m.cls := findClass_of_methodNamed B.named
  have hlocks := B.notSynchronized
  have hin : meth.name = "<init>" := (name_of_methodNamed B.named B.method).1
  subst hsz
  have hD := hD0.self (sz := s.heap.size)
  generalize hAe : va_A [(h0, .inr (2, [.null, .null, .null, .null, .int 0]))] s.heap.size = A at hD ⊢
  have hA : ∀ q : Nat, s.heap.size ≤ q → A q := fun q h => by rw [← hAe]; exact Or.inr h
  have hS : va_S A s.heap s.heap [] := va_S.rf
  have hl := lv_entry ([.ref h0]) (n := 1) (Nat.le_of_ble_eq_true rfl)
  rw [lg_entry_eq]
  generalize (lg_sl ([.ref h0]) ++ List.replicate (1 - (lg_sl ([.ref h0])).length) Slot.unset).toArray = ls at hl ⊢
  have hl : lv_has ls 1 [(0, .ref h0)] := hl
  have X : MX2 p s m meth c [.ref h0].toArray D cA A s.heap := ⟨hx, hb, hts, hown, hK, hA, hin⟩
  refine lv_aload_n hx hb dk_Moment_0 rfl (lv_at hl 0 rfl) ?_
  refine W.objInit hx hb hown (hts _ (wc2_in (k := 0) rfl)) (hts _ (wc2_in (k := 1) rfl)) (hts _ (wc2_in (k := 2) rfl)) rfl (by rw [hml]; exact hl.1) rfl dk_Moment_1 (Nat.le_of_ble_eq_true rfl) (Nat.le_of_ble_eq_true rfl) ?_
  refine W.eq (g2 := F0 m 4 ls []) rfl ?_
  refine lv_aload_n hx hb dk_Moment_4 rfl (lv_at hl 0 rfl) ?_
  refine n_new (S := Nat → Nat) (C := RX1) (T := TX1) (N := 8) (ci := 1) (fs := [.int 0, .int 0, .null, .null, .null, .null, .null, .null]) (As := []) (ck := fun q u => ck_Crowd cA q u) (G := (fun U => va_K D vwCl (tysOf cA) U)) (n := 0) (pc3 := 9) (y := ⟨"PealOfExcuses$Crowd", "<init>", "()V"⟩) ⟨hx, hb, hml, hown, hts⟩ hl.1 hK hA rfl tyX1 tyX1_ok (wc2_in (k := 3) rfl) (wc2_in (k := 4) rfl) (wc2_in (k := 5) rfl) (fun j hj => hfs1 j hj) (fun q sz => k_Crowd l D cA q sz) (fun U hW => va_K.moved hW.alike hK) (fun a U g mk z => va_K.moved (u := U) (U := U.calling g mk a) (Vm.Alike.refl U.vm) z) (wc2_in (k := 6) rfl) rfl rfl rfl (wc2_in (k := 7) rfl) rfl (Or.inr ⟨_, hNm⟩) ⟨by decide, by decide, by decide +kernel⟩ rfl ⟨Nat.le_of_ble_eq_true rfl, Nat.le_of_ble_eq_true rfl⟩ (fun _ => Nat.le_of_ble_eq_true rfl) hP hD hS (by exact Nat.le_of_ble_eq_true rfl) (by exact Nat.le_of_ble_eq_true rfl) dk_Moment_5 dk_Moment_8 (fun _ _ _ _ _ h => h) dk_Moment_9 (fun q1 u1 H locs hP hD hS => ?_)
  have hP : va_P D vwCl ((h0, .inr (2, [.null, .null, .null, .null, .int 0])) :: ([] ++ ck_Crowd cA q1 u1)) H := hP
  have hD : va_D A ((h0, .inr (2, [.null, .null, .null, .null, .int 0])) :: ([] ++ ck_Crowd cA q1 u1)) := hD
  refine W.widen (k := 7) (n := 62) (by exact Nat.le_of_ble_eq_true rfl) (by exact Nat.le_of_ble_eq_true rfl) ?_
  refine W.eq (g2 := F0 m 12 ls [.ref q1, .ref h0]) rfl ?_
  refine put2 X (k := 0) (ty := .object "PealOfExcuses$Crowd") (by decide) (wc2_in (k := 8) rfl) hP hD hS rfl rfl (by decide +kernel) rfl rfl dk_Moment_12 (Or.inl rfl) (fun H locs hP hD hS => ?_)
  have hP : va_P D vwCl ((h0, .inr (2, [.ref q1, .null, .null, .null, .int 0])) :: ([] ++ ck_Crowd cA q1 u1)) H := hP
  have hD : va_D A ((h0, .inr (2, [.ref q1, .null, .null, .null, .int 0])) :: ([] ++ ck_Crowd cA q1 u1)) := hD
  refine W.eq (g2 := F0 m 15 ls []) rfl ?_
  refine lv_aload_n hx hb dk_Moment_15 rfl (lv_at hl 0 rfl) ?_
  refine n_new (S := Nat → Nat) (C := RX4) (T := TX4) (N := 5) (ci := 4) (fs := [.int 0, .int 0, .null, .null, .null]) (As := [.int 5]) (ck := fun q u => ck_Notes cA q 5 5 u) (G := (fun U => va_K D vwCl (tysOf cA) U)) (n := 1) (pc3 := 21) (y := ⟨"PealOfExcuses$Notes", "<init>", "(I)V"⟩) ⟨hx, hb, hml, hown, hts⟩ hl.1 hK hA rfl tyX4 tyX4_ok (wc2_in (k := 10) rfl) (wc2_in (k := 11) rfl) (wc2_in (k := 12) rfl) (fun j hj => hfs4 j hj) (fun q sz => k_Notes l D cA q sz 5 5 (by decide) rfl (by decide)) (fun U hW => va_K.moved hW.alike hK) (fun a U g mk z => va_K.moved (u := U) (U := U.calling g mk a) (Vm.Alike.refl U.vm) z) (wc2_in (k := 13) rfl) rfl rfl rfl (wc2_in (k := 14) rfl) rfl (Or.inl (wc2_in (k := 9) rfl)) ⟨by decide, by decide, by decide +kernel⟩ rfl ⟨Nat.le_of_ble_eq_true rfl, Nat.le_of_ble_eq_true rfl⟩ (fun _ => Nat.le_of_ble_eq_true rfl) hP hD hS (by exact Nat.le_of_ble_eq_true rfl) (by exact Nat.le_of_ble_eq_true rfl) dk_Moment_16 dk_Moment_19 (fun _ _ _ _ _ h => lv_iconst (v := 5) hx hb dk_Moment_20 (by decide) h) dk_Moment_21 (fun q2 u2 H locs hP hD hS => ?_)
  have hP : va_P D vwCl ((h0, .inr (2, [.ref q1, .null, .null, .null, .int 0])) :: (([] ++ ck_Crowd cA q1 u1) ++ ck_Notes cA q2 5 5 u2)) H := hP
  have hD : va_D A ((h0, .inr (2, [.ref q1, .null, .null, .null, .int 0])) :: (([] ++ ck_Crowd cA q1 u1) ++ ck_Notes cA q2 5 5 u2)) := hD
  refine W.widen (k := 11) (n := 82) (by exact Nat.le_of_ble_eq_true rfl) (by exact Nat.le_of_ble_eq_true rfl) ?_
  refine W.eq (g2 := F0 m 24 ls [.ref q2, .ref h0]) rfl ?_
  refine put2 X (k := 1) (ty := .object "PealOfExcuses$Notes") (by decide) (wc2_in (k := 15) rfl) hP hD hS rfl rfl (by decide +kernel) rfl rfl dk_Moment_24 (Or.inl rfl) (fun H locs hP hD hS => ?_)
  have hP : va_P D vwCl ((h0, .inr (2, [.ref q1, .ref q2, .null, .null, .int 0])) :: (([] ++ ck_Crowd cA q1 u1) ++ ck_Notes cA q2 5 5 u2)) H := hP
  have hD : va_D A ((h0, .inr (2, [.ref q1, .ref q2, .null, .null, .int 0])) :: (([] ++ ck_Crowd cA q1 u1) ++ ck_Notes cA q2 5 5 u2)) := hD
  refine W.eq (g2 := F0 m 27 ls []) rfl ?_
  refine lv_aload_n hx hb dk_Moment_27 rfl (lv_at hl 0 rfl) ?_
  refine n_new (S := Nat → Nat) (C := RX4) (T := TX4) (N := 5) (ci := 4) (fs := [.int 0, .int 0, .null, .null, .null]) (As := [.int 10]) (ck := fun q u => ck_Notes cA q 10 10 u) (G := (fun U => va_K D vwCl (tysOf cA) U)) (n := 1) (pc3 := 34) (y := ⟨"PealOfExcuses$Notes", "<init>", "(I)V"⟩) ⟨hx, hb, hml, hown, hts⟩ hl.1 hK hA rfl tyX4 tyX4_ok (wc2_in (k := 10) rfl) (wc2_in (k := 11) rfl) (wc2_in (k := 12) rfl) (fun j hj => hfs4 j hj) (fun q sz => k_Notes l D cA q sz 10 10 (by decide) rfl (by decide)) (fun U hW => va_K.moved hW.alike hK) (fun a U g mk z => va_K.moved (u := U) (U := U.calling g mk a) (Vm.Alike.refl U.vm) z) (wc2_in (k := 13) rfl) rfl rfl rfl (wc2_in (k := 14) rfl) rfl (Or.inl (wc2_in (k := 9) rfl)) ⟨by decide, by decide, by decide +kernel⟩ rfl ⟨Nat.le_of_ble_eq_true rfl, Nat.le_of_ble_eq_true rfl⟩ (fun _ => Nat.le_of_ble_eq_true rfl) hP hD hS (by exact Nat.le_of_ble_eq_true rfl) (by exact Nat.le_of_ble_eq_true rfl) dk_Moment_28 dk_Moment_31 (fun _ _ _ _ _ h => lv_bipush (v := 10) hx hb dk_Moment_32 (by decide) h) dk_Moment_34 (fun q3 u3 H locs hP hD hS => ?_)
  have hP : va_P D vwCl ((h0, .inr (2, [.ref q1, .ref q2, .null, .null, .int 0])) :: ((([] ++ ck_Crowd cA q1 u1) ++ ck_Notes cA q2 5 5 u2) ++ ck_Notes cA q3 10 10 u3)) H := hP
  have hD : va_D A ((h0, .inr (2, [.ref q1, .ref q2, .null, .null, .int 0])) :: ((([] ++ ck_Crowd cA q1 u1) ++ ck_Notes cA q2 5 5 u2) ++ ck_Notes cA q3 10 10 u3)) := hD
  refine W.widen (k := 15) (n := 117) (by exact Nat.le_of_ble_eq_true rfl) (by exact Nat.le_of_ble_eq_true rfl) ?_
  refine W.eq (g2 := F0 m 37 ls [.ref q3, .ref h0]) rfl ?_
  refine put2 X (k := 2) (ty := .object "PealOfExcuses$Notes") (by decide) (wc2_in (k := 16) rfl) hP hD hS rfl rfl (by decide +kernel) rfl rfl dk_Moment_37 (Or.inl rfl) (fun H locs hP hD hS => ?_)
  have hP : va_P D vwCl ((h0, .inr (2, [.ref q1, .ref q2, .ref q3, .null, .int 0])) :: ((([] ++ ck_Crowd cA q1 u1) ++ ck_Notes cA q2 5 5 u2) ++ ck_Notes cA q3 10 10 u3)) H := hP
  have hD : va_D A ((h0, .inr (2, [.ref q1, .ref q2, .ref q3, .null, .int 0])) :: ((([] ++ ck_Crowd cA q1 u1) ++ ck_Notes cA q2 5 5 u2) ++ ck_Notes cA q3 10 10 u3)) := hD
  refine W.eq (g2 := F0 m 40 ls []) rfl ?_
  refine lv_aload_n hx hb dk_Moment_40 rfl (lv_at hl 0 rfl) ?_
  refine n_new (S := Nat → Nat) (C := RX4) (T := TX4) (N := 5) (ci := 4) (fs := [.int 0, .int 0, .null, .null, .null]) (As := [.int 8]) (ck := fun q u => ck_Notes cA q 8 8 u) (G := (fun U => va_K D vwCl (tysOf cA) U)) (n := 1) (pc3 := 47) (y := ⟨"PealOfExcuses$Notes", "<init>", "(I)V"⟩) ⟨hx, hb, hml, hown, hts⟩ hl.1 hK hA rfl tyX4 tyX4_ok (wc2_in (k := 10) rfl) (wc2_in (k := 11) rfl) (wc2_in (k := 12) rfl) (fun j hj => hfs4 j hj) (fun q sz => k_Notes l D cA q sz 8 8 (by decide) rfl (by decide)) (fun U hW => va_K.moved hW.alike hK) (fun a U g mk z => va_K.moved (u := U) (U := U.calling g mk a) (Vm.Alike.refl U.vm) z) (wc2_in (k := 13) rfl) rfl rfl rfl (wc2_in (k := 14) rfl) rfl (Or.inl (wc2_in (k := 9) rfl)) ⟨by decide, by decide, by decide +kernel⟩ rfl ⟨Nat.le_of_ble_eq_true rfl, Nat.le_of_ble_eq_true rfl⟩ (fun _ => Nat.le_of_ble_eq_true rfl) hP hD hS (by exact Nat.le_of_ble_eq_true rfl) (by exact Nat.le_of_ble_eq_true rfl) dk_Moment_41 dk_Moment_44 (fun _ _ _ _ _ h => lv_bipush (v := 8) hx hb dk_Moment_45 (by decide) h) dk_Moment_47 (fun q4 u4 H locs hP hD hS => ?_)
  have hP : va_P D vwCl ((h0, .inr (2, [.ref q1, .ref q2, .ref q3, .null, .int 0])) :: (((([] ++ ck_Crowd cA q1 u1) ++ ck_Notes cA q2 5 5 u2) ++ ck_Notes cA q3 10 10 u3) ++ ck_Notes cA q4 8 8 u4)) H := hP
  have hD : va_D A ((h0, .inr (2, [.ref q1, .ref q2, .ref q3, .null, .int 0])) :: (((([] ++ ck_Crowd cA q1 u1) ++ ck_Notes cA q2 5 5 u2) ++ ck_Notes cA q3 10 10 u3) ++ ck_Notes cA q4 8 8 u4)) := hD
  refine W.widen (k := 19) (n := 146) (by exact Nat.le_of_ble_eq_true rfl) (by exact Nat.le_of_ble_eq_true rfl) ?_
  refine W.eq (g2 := F0 m 50 ls [.ref q4, .ref h0]) rfl ?_
  refine put2 X (k := 3) (ty := .object "PealOfExcuses$Notes") (by decide) (wc2_in (k := 17) rfl) hP hD hS rfl rfl (by decide +kernel) rfl rfl dk_Moment_50 (Or.inl rfl) (fun H locs hP hD hS => ?_)
  have hP : va_P D vwCl ((h0, .inr (2, [.ref q1, .ref q2, .ref q3, .ref q4, .int 0])) :: (((([] ++ ck_Crowd cA q1 u1) ++ ck_Notes cA q2 5 5 u2) ++ ck_Notes cA q3 10 10 u3) ++ ck_Notes cA q4 8 8 u4)) H := hP
  have hD : va_D A ((h0, .inr (2, [.ref q1, .ref q2, .ref q3, .ref q4, .int 0])) :: (((([] ++ ck_Crowd cA q1 u1) ++ ck_Notes cA q2 5 5 u2) ++ ck_Notes cA q3 10 10 u3) ++ ck_Notes cA q4 8 8 u4)) := hD
  refine W.eq (g2 := F0 m 53 ls []) rfl ?_
  refine lv_aload_n hx hb dk_Moment_53 rfl (lv_at hl 0 rfl) ?_
  refine lv_iconst (v := -1) hx hb dk_Moment_54 (by decide) ?_
  refine put2 X (k := 4) (ty := .int) (by decide) (wc2_in (k := 18) rfl) hP hD hS rfl rfl (by decide +kernel) rfl rfl dk_Moment_55 (Or.inr rfl) (fun H locs hP hD hS => ?_)
  have hP : va_P D vwCl ((h0, .inr (2, [.ref q1, .ref q2, .ref q3, .ref q4, .int (-1)])) :: (((([] ++ ck_Crowd cA q1 u1) ++ ck_Notes cA q2 5 5 u2) ++ ck_Notes cA q3 10 10 u3) ++ ck_Notes cA q4 8 8 u4)) H := hP
  have hD : va_D A ((h0, .inr (2, [.ref q1, .ref q2, .ref q3, .ref q4, .int (-1)])) :: (((([] ++ ck_Crowd cA q1 u1) ++ ck_Notes cA q2 5 5 u2) ++ ck_Notes cA q3 10 10 u3) ++ ck_Notes cA q4 8 8 u4)) := hD
  refine W.eq (g2 := F0 m 58 ls []) rfl ?_
  obtain ⟨u, hu⟩ := ckm_eq cA h0 q1 u1 q2 u2 q3 u3 q4 u4
  rw [hu] at hP hD
  exact W.vret hx hb hr (fun t ht hW => ⟨⟨u, rfl, trivial, by rw [ht]; exact hP, va_K.moved hW.alike hK, hD⟩, hS.F ht⟩) hS.2.2 dk_Moment_58
