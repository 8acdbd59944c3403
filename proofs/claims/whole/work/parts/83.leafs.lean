/-! The constructors that call no other. -/
set_option maxRecDepth 100000
theorem dk_Crowd_0 : decode prog_3_method_1_code 0 = .ok (.aload_n 0, 1) := by decide +kernel
theorem dk_Crowd_1 : decode prog_3_method_1_code 1 = .ok (.invokespecial 3, 3) := by decide +kernel
theorem dk_Crowd_4 : decode prog_3_method_1_code 4 = .ok (.aload_n 0, 1) := by decide +kernel
theorem dk_Crowd_5 : decode prog_3_method_1_code 5 = .ok (.bipush 6, 2) := by decide +kernel
theorem dk_Crowd_7 : decode prog_3_method_1_code 7 = .ok (.newarray .int, 2) := by decide +kernel
theorem dk_Crowd_9 : decode prog_3_method_1_code 9 = .ok (.putfield 9, 3) := by decide +kernel
theorem dk_Crowd_12 : decode prog_3_method_1_code 12 = .ok (.aload_n 0, 1) := by decide +kernel
theorem dk_Crowd_13 : decode prog_3_method_1_code 13 = .ok (.bipush 6, 2) := by decide +kernel
theorem dk_Crowd_15 : decode prog_3_method_1_code 15 = .ok (.newarray .int, 2) := by decide +kernel
theorem dk_Crowd_17 : decode prog_3_method_1_code 17 = .ok (.putfield 15, 3) := by decide +kernel
theorem dk_Crowd_20 : decode prog_3_method_1_code 20 = .ok (.aload_n 0, 1) := by decide +kernel
theorem dk_Crowd_21 : decode prog_3_method_1_code 21 = .ok (.bipush 6, 2) := by decide +kernel
theorem dk_Crowd_23 : decode prog_3_method_1_code 23 = .ok (.newarray .int, 2) := by decide +kernel
theorem dk_Crowd_25 : decode prog_3_method_1_code 25 = .ok (.putfield 18, 3) := by decide +kernel
theorem dk_Crowd_28 : decode prog_3_method_1_code 28 = .ok (.aload_n 0, 1) := by decide +kernel
theorem dk_Crowd_29 : decode prog_3_method_1_code 29 = .ok (.bipush 6, 2) := by decide +kernel
theorem dk_Crowd_31 : decode prog_3_method_1_code 31 = .ok (.newarray .int, 2) := by decide +kernel
theorem dk_Crowd_33 : decode prog_3_method_1_code 33 = .ok (.putfield 21, 3) := by decide +kernel
theorem dk_Crowd_36 : decode prog_3_method_1_code 36 = .ok (.aload_n 0, 1) := by decide +kernel
theorem dk_Crowd_37 : decode prog_3_method_1_code 37 = .ok (.bipush 6, 2) := by decide +kernel
theorem dk_Crowd_39 : decode prog_3_method_1_code 39 = .ok (.newarray .boolean, 2) := by decide +kernel
theorem dk_Crowd_41 : decode prog_3_method_1_code 41 = .ok (.putfield 24, 3) := by decide +kernel
theorem dk_Crowd_44 : decode prog_3_method_1_code 44 = .ok (.aload_n 0, 1) := by decide +kernel
theorem dk_Crowd_45 : decode prog_3_method_1_code 45 = .ok (.bipush 24, 2) := by decide +kernel
theorem dk_Crowd_47 : decode prog_3_method_1_code 47 = .ok (.newarray .int, 2) := by decide +kernel
theorem dk_Crowd_49 : decode prog_3_method_1_code 49 = .ok (.putfield 28, 3) := by decide +kernel
theorem dk_Crowd_52 : decode prog_3_method_1_code 52 = .ok (.return_, 1) := by decide +kernel
theorem dk_Notes_0 : decode prog_6_method_1_code 0 = .ok (.aload_n 0, 1) := by decide +kernel
theorem dk_Notes_1 : decode prog_6_method_1_code 1 = .ok (.invokespecial 3, 3) := by decide +kernel
theorem dk_Notes_4 : decode prog_6_method_1_code 4 = .ok (.aload_n 0, 1) := by decide +kernel
theorem dk_Notes_5 : decode prog_6_method_1_code 5 = .ok (.iload_n 1, 1) := by decide +kernel
theorem dk_Notes_6 : decode prog_6_method_1_code 6 = .ok (.putfield 9, 3) := by decide +kernel
theorem dk_Notes_9 : decode prog_6_method_1_code 9 = .ok (.aload_n 0, 1) := by decide +kernel
theorem dk_Notes_10 : decode prog_6_method_1_code 10 = .ok (.iload_n 1, 1) := by decide +kernel
theorem dk_Notes_11 : decode prog_6_method_1_code 11 = .ok (.newarray .int, 2) := by decide +kernel
theorem dk_Notes_13 : decode prog_6_method_1_code 13 = .ok (.putfield 15, 3) := by decide +kernel
theorem dk_Notes_16 : decode prog_6_method_1_code 16 = .ok (.aload_n 0, 1) := by decide +kernel
theorem dk_Notes_17 : decode prog_6_method_1_code 17 = .ok (.iload_n 1, 1) := by decide +kernel
theorem dk_Notes_18 : decode prog_6_method_1_code 18 = .ok (.newarray .int, 2) := by decide +kernel
theorem dk_Notes_20 : decode prog_6_method_1_code 20 = .ok (.putfield 19, 3) := by decide +kernel
theorem dk_Notes_23 : decode prog_6_method_1_code 23 = .ok (.aload_n 0, 1) := by decide +kernel
theorem dk_Notes_24 : decode prog_6_method_1_code 24 = .ok (.iload_n 1, 1) := by decide +kernel
theorem dk_Notes_25 : decode prog_6_method_1_code 25 = .ok (.newarray .int, 2) := by decide +kernel
theorem dk_Notes_27 : decode prog_6_method_1_code 27 = .ok (.putfield 22, 3) := by decide +kernel
theorem dk_Notes_30 : decode prog_6_method_1_code 30 = .ok (.return_, 1) := by decide +kernel
theorem dk_Town_0 : decode prog_9_method_1_code 0 = .ok (.aload_n 0, 1) := by decide +kernel
theorem dk_Town_1 : decode prog_9_method_1_code 1 = .ok (.invokespecial 3, 3) := by decide +kernel
theorem dk_Town_4 : decode prog_9_method_1_code 4 = .ok (.aload_n 0, 1) := by decide +kernel
theorem dk_Town_5 : decode prog_9_method_1_code 5 = .ok (.iconst 5, 1) := by decide +kernel
theorem dk_Town_6 : decode prog_9_method_1_code 6 = .ok (.putfield 9, 3) := by decide +kernel
theorem dk_Town_9 : decode prog_9_method_1_code 9 = .ok (.aload_n 0, 1) := by decide +kernel
theorem dk_Town_10 : decode prog_9_method_1_code 10 = .ok (.bipush 10, 2) := by decide +kernel
theorem dk_Town_12 : decode prog_9_method_1_code 12 = .ok (.newarray .int, 2) := by decide +kernel
theorem dk_Town_14 : decode prog_9_method_1_code 14 = .ok (.putfield 15, 3) := by decide +kernel
theorem dk_Town_17 : decode prog_9_method_1_code 17 = .ok (.aload_n 0, 1) := by decide +kernel
theorem dk_Town_18 : decode prog_9_method_1_code 18 = .ok (.bipush 10, 2) := by decide +kernel
theorem dk_Town_20 : decode prog_9_method_1_code 20 = .ok (.newarray .int, 2) := by decide +kernel
theorem dk_Town_22 : decode prog_9_method_1_code 22 = .ok (.putfield 19, 3) := by decide +kernel
theorem dk_Town_25 : decode prog_9_method_1_code 25 = .ok (.aload_n 0, 1) := by decide +kernel
theorem dk_Town_26 : decode prog_9_method_1_code 26 = .ok (.bipush 10, 2) := by decide +kernel
theorem dk_Town_28 : decode prog_9_method_1_code 28 = .ok (.newarray .int, 2) := by decide +kernel
theorem dk_Town_30 : decode prog_9_method_1_code 30 = .ok (.putfield 22, 3) := by decide +kernel
theorem dk_Town_33 : decode prog_9_method_1_code 33 = .ok (.aload_n 0, 1) := by decide +kernel
theorem dk_Town_34 : decode prog_9_method_1_code 34 = .ok (.bipush 100, 2) := by decide +kernel
theorem dk_Town_36 : decode prog_9_method_1_code 36 = .ok (.newarray .int, 2) := by decide +kernel
theorem dk_Town_38 : decode prog_9_method_1_code 38 = .ok (.putfield 25, 3) := by decide +kernel
theorem dk_Town_41 : decode prog_9_method_1_code 41 = .ok (.return_, 1) := by decide +kernel
theorem dk_Reader_0 : decode prog_7_method_1_code 0 = .ok (.aload_n 0, 1) := by decide +kernel
theorem dk_Reader_1 : decode prog_7_method_1_code 1 = .ok (.invokespecial 3, 3) := by decide +kernel
theorem dk_Reader_4 : decode prog_7_method_1_code 4 = .ok (.aload_n 0, 1) := by decide +kernel
theorem dk_Reader_5 : decode prog_7_method_1_code 5 = .ok (.bipush 100, 2) := by decide +kernel
theorem dk_Reader_7 : decode prog_7_method_1_code 7 = .ok (.newarray .byte, 2) := by decide +kernel
theorem dk_Reader_9 : decode prog_7_method_1_code 9 = .ok (.putfield 9, 3) := by decide +kernel
theorem dk_Reader_12 : decode prog_7_method_1_code 12 = .ok (.return_, 1) := by decide +kernel
theorem dk_Morning_0 : decode prog_5_method_1_code 0 = .ok (.aload_n 0, 1) := by decide +kernel
theorem dk_Morning_1 : decode prog_5_method_1_code 1 = .ok (.invokespecial 3, 3) := by decide +kernel
theorem dk_Morning_4 : decode prog_5_method_1_code 4 = .ok (.aload_n 0, 1) := by decide +kernel
theorem dk_Morning_5 : decode prog_5_method_1_code 5 = .ok (.bipush 6, 2) := by decide +kernel
theorem dk_Morning_7 : decode prog_5_method_1_code 7 = .ok (.newarray .int, 2) := by decide +kernel
theorem dk_Morning_9 : decode prog_5_method_1_code 9 = .ok (.putfield 9, 3) := by decide +kernel
theorem dk_Morning_12 : decode prog_5_method_1_code 12 = .ok (.aload_n 0, 1) := by decide +kernel
theorem dk_Morning_13 : decode prog_5_method_1_code 13 = .ok (.bipush 6, 2) := by decide +kernel
theorem dk_Morning_15 : decode prog_5_method_1_code 15 = .ok (.newarray .int, 2) := by decide +kernel
theorem dk_Morning_17 : decode prog_5_method_1_code 17 = .ok (.putfield 15, 3) := by decide +kernel
theorem dk_Morning_20 : decode prog_5_method_1_code 20 = .ok (.aload_n 0, 1) := by decide +kernel
theorem dk_Morning_21 : decode prog_5_method_1_code 21 = .ok (.bipush 6, 2) := by decide +kernel
theorem dk_Morning_23 : decode prog_5_method_1_code 23 = .ok (.newarray .int, 2) := by decide +kernel
theorem dk_Morning_25 : decode prog_5_method_1_code 25 = .ok (.putfield 18, 3) := by decide +kernel
theorem dk_Morning_28 : decode prog_5_method_1_code 28 = .ok (.aload_n 0, 1) := by decide +kernel
theorem dk_Morning_29 : decode prog_5_method_1_code 29 = .ok (.bipush 6, 2) := by decide +kernel
theorem dk_Morning_31 : decode prog_5_method_1_code 31 = .ok (.newarray .int, 2) := by decide +kernel
theorem dk_Morning_33 : decode prog_5_method_1_code 33 = .ok (.putfield 21, 3) := by decide +kernel
theorem dk_Morning_36 : decode prog_5_method_1_code 36 = .ok (.aload_n 0, 1) := by decide +kernel
theorem dk_Morning_37 : decode prog_5_method_1_code 37 = .ok (.iconst (-1), 1) := by decide +kernel
theorem dk_Morning_38 : decode prog_5_method_1_code 38 = .ok (.putfield 24, 3) := by decide +kernel
theorem dk_Morning_41 : decode prog_5_method_1_code 41 = .ok (.return_, 1) := by decide +kernel
theorem dk_Actor_0 : decode prog_2_method_1_code 0 = .ok (.aload_n 0, 1) := by decide +kernel
theorem dk_Actor_1 : decode prog_2_method_1_code 1 = .ok (.invokespecial 3, 3) := by decide +kernel
theorem dk_Actor_4 : decode prog_2_method_1_code 4 = .ok (.aload_n 0, 1) := by decide +kernel
theorem dk_Actor_5 : decode prog_2_method_1_code 5 = .ok (.bipush 20, 2) := by decide +kernel
theorem dk_Actor_7 : decode prog_2_method_1_code 7 = .ok (.newarray .int, 2) := by decide +kernel
theorem dk_Actor_9 : decode prog_2_method_1_code 9 = .ok (.putfield 9, 3) := by decide +kernel
theorem dk_Actor_12 : decode prog_2_method_1_code 12 = .ok (.return_, 1) := by decide +kernel
theorem dk_Tape_0 : decode prog_8_method_1_code 0 = .ok (.aload_n 0, 1) := by decide +kernel
theorem dk_Tape_1 : decode prog_8_method_1_code 1 = .ok (.invokespecial 3, 3) := by decide +kernel
theorem dk_Tape_4 : decode prog_8_method_1_code 4 = .ok (.aload_n 0, 1) := by decide +kernel
theorem dk_Tape_5 : decode prog_8_method_1_code 5 = .ok (.iconst (-1), 1) := by decide +kernel
theorem dk_Tape_6 : decode prog_8_method_1_code 6 = .ok (.putfield 11, 3) := by decide +kernel
theorem dk_Tape_9 : decode prog_8_method_1_code 9 = .ok (.aload_n 0, 1) := by decide +kernel
theorem dk_Tape_10 : decode prog_8_method_1_code 10 = .ok (.bipush 60, 2) := by decide +kernel
theorem dk_Tape_12 : decode prog_8_method_1_code 12 = .ok (.newarray .long, 2) := by decide +kernel
theorem dk_Tape_14 : decode prog_8_method_1_code 14 = .ok (.putfield 15, 3) := by decide +kernel
theorem dk_Tape_17 : decode prog_8_method_1_code 17 = .ok (.return_, 1) := by decide +kernel
abbrev wk_Crowd : List Cond := .code ⟨"PealOfExcuses$Crowd", "<init>", "()V"⟩ prog_3_method_1_code 1 none :: TW
abbrev ck_Crowd (cA : Nat → ClassId) (h0 : Nat) (u : Nat → Nat) : va_W := [(h0, .inr (1, [.int 0, .int 0, .ref (u 1), .ref (u 2), .ref (u 3), .ref (u 4), .ref (u 5), .ref (u 6)])), ((u 1), .inl (cA 0, 6, .inl (fun _ => 0))), ((u 2), .inl (cA 0, 6, .inl (fun _ => 0))), ((u 3), .inl (cA 0, 6, .inl (fun _ => 0))), ((u 4), .inl (cA 0, 6, .inl (fun _ => 0))), ((u 5), .inl (cA 1, 6, .inl (fun _ => 0))), ((u 6), .inl (cA 0, 24, .inl (fun _ => 0)))]
set_option maxHeartbeats 4000000 in
theorem k_Crowd (l : Launch) (D : va_G) (cA : Nat → ClassId) (h0 sz : Nat) : Met l ⟨"PealOfExcuses$Crowd", "<init>", "()V"⟩ wk_Crowd ({ frames := 1, cells := 6, slots := 0 + 6 + 6 + 6 + 6 + 6 + 24, locals := 12 }) (va_Pc [.ref h0] (fun U => U.heap.size = sz ∧ va_P D vwCl [(h0, .inr (1, [.int 0, .int 0, .null, .null, .null, .null, .null, .null]))] U.heap ∧ va_K D vwCl (tysOf cA) U ∧ va_D (fun _ => True) [(h0, .inr (1, [.int 0, .int 0, .null, .null, .null, .null, .null, .null]))])) (va_Qv (fun _ : Nat → Nat => True) (fun u t => va_P D vwCl (ck_Crowd cA h0 u) t.heap ∧ va_K D vwCl (tysOf cA) t ∧ va_D (va_A [(h0, .inr (1, [.int 0, .int 0, .null, .null, .null, .null, .null, .null]))] sz) (ck_Crowd cA h0 u)) (va_A [(h0, .inr (1, [.int 0, .int 0, .null, .null, .null, .null, .null, .null]))] sz)) (6) (0 + 6 + 6 + 6 + 6 + 6 + 24) (va_A [(h0, .inr (1, [.int 0, .int 0, .null, .null, .null, .null, .null, .null]))] sz) := by
  refine Met.ofW (cc := prog_3_method_1_code) (maxL := 1) (ret := none) (by decide) rfl ?_
  intro p e s m args below meth c s₁ B hml hv
  obtain ⟨rfl, hsz, hP, hK, hD0⟩ := hv
  have hx := B.exec
  have hb := B.bytes
  have hr := B.returns
  have hts : ∀ w ∈ TW, w.before [.ref h0].toArray s = true := fun w hw => atoms_spec (ws := wk_Crowd) B.pre w (List.mem_cons_of_mem _ hw)
  have hown : s.vm.findClass RX1 = some m.cls := findClass_of_methodNamed B.named
  have hlocks := B.notSynchronized
  have hin : meth.name = "<init>" := (name_of_methodNamed B.named B.method).1
  subst hsz
  have hD := hD0.self (sz := s.heap.size)
  generalize hAe : va_A [(h0, .inr (1, [.int 0, .int 0, .null, .null, .null, .null, .null, .null]))] s.heap.size = A at hD ⊢
  have hA : ∀ q : Nat, s.heap.size ≤ q → A q := fun q h => by rw [← hAe]; exact Or.inr h
  have hS : va_S A s.heap s.heap [] := va_S.rf
  have hP : va_P D vwCl [(h0, .inr (1, [.int 0, .int 0, .null, .null, .null, .null, .null, .null]))] s.heap := hP
  have hl := lv_entry ([.ref h0]) (n := 1) (Nat.le_of_ble_eq_true rfl)
  rw [lg_entry_eq]
  generalize (lg_sl ([.ref h0]) ++ List.replicate (1 - (lg_sl ([.ref h0])).length) Slot.unset).toArray = ls at hl ⊢
  have hl : lv_has ls 1 [(0, .ref h0)] := hl
  refine lv_aload_n hx hb dk_Crowd_0 rfl (lv_at hl 0 rfl) ?_
  refine W.objInit hx hb hown (hts _ (wc_in (k := 0) rfl)) (hts _ (wc_in (k := 1) rfl)) (hts _ (wc_in (k := 2) rfl)) rfl (by rw [hml]; exact hl.1) rfl dk_Crowd_1 (Nat.le_of_ble_eq_true rfl) (Nat.le_of_ble_eq_true rfl) ?_
  refine W.eq (g2 := F0 m 4 ls []) rfl ?_
  refine lv_aload_n hx hb dk_Crowd_4 rfl (lv_at hl 0 rfl) ?_
  refine lv_bipush (v := 6) hx hb dk_Crowd_5 (by decide) ?_
  have hc1 : 0 + 1 ≤ 6 := by omega
  have hs1 : 0 + 6 ≤ 0 + 6 + 6 + 6 + 6 + 6 + 24 := by omega
  refine nw_a (ty := .int) (a0 := (6, .inl (fun _ => 0))) (t0 := 0) hx hb (hts _ (wc_in (k := 3) rfl)) rfl hK rfl hP hD hS hA (fun _ => rfl) (by decide) rfl (by decide) hc1 hs1 dk_Crowd_7 (fun q1 H hP hD hS => ?_)
  have hP : va_P D vwCl [(h0, .inr (1, [.int 0, .int 0, .null, .null, .null, .null, .null, .null])), (q1, .inl (cA 0, 6, .inl (fun _ => 0)))] H := hP
  have hD : va_D A [(h0, .inr (1, [.int 0, .int 0, .null, .null, .null, .null, .null, .null])), (q1, .inl (cA 0, 6, .inl (fun _ => 0)))] := hD
  refine va_putF (D := D) (ci := 1) (v := .ref q1) (ty := .array .int) (C := RX1) (T := TX1) (N := 8) hx hb hts (hin_at (k := 1) rfl) tyX1 tyX1_ok nmX1 hown hK hP hD hS 0 rfl rfl 2 (by decide) (hts _ (wc_in (k := 4) rfl)) (fun _ h9 => h9) rfl hin rfl (by decide +kernel) rfl rfl (Nat.le_of_ble_eq_true rfl) dk_Crowd_9 (fun H locs hP hD hS => ?_)
  have hP : va_P D vwCl [(h0, .inr (1, [.int 0, .int 0, .ref q1, .null, .null, .null, .null, .null])), (q1, .inl (cA 0, 6, .inl (fun _ => 0)))] H := hP
  have hD : va_D A [(h0, .inr (1, [.int 0, .int 0, .ref q1, .null, .null, .null, .null, .null])), (q1, .inl (cA 0, 6, .inl (fun _ => 0)))] := hD
  refine lv_aload_n hx hb dk_Crowd_12 rfl (lv_at hl 0 rfl) ?_
  refine lv_bipush (v := 6) hx hb dk_Crowd_13 (by decide) ?_
  have hc2 : 1 + 1 ≤ 6 := by omega
  have hs2 : 0 + 6 + 6 ≤ 0 + 6 + 6 + 6 + 6 + 6 + 24 := by omega
  refine nw_a (ty := .int) (a0 := (6, .inl (fun _ => 0))) (t0 := 0) hx hb (hts _ (wc_in (k := 3) rfl)) rfl hK rfl hP hD hS hA (fun _ => rfl) (by decide) rfl (by decide) hc2 hs2 dk_Crowd_15 (fun q2 H hP hD hS => ?_)
  have hP : va_P D vwCl [(h0, .inr (1, [.int 0, .int 0, .ref q1, .null, .null, .null, .null, .null])), (q1, .inl (cA 0, 6, .inl (fun _ => 0))), (q2, .inl (cA 0, 6, .inl (fun _ => 0)))] H := hP
  have hD : va_D A [(h0, .inr (1, [.int 0, .int 0, .ref q1, .null, .null, .null, .null, .null])), (q1, .inl (cA 0, 6, .inl (fun _ => 0))), (q2, .inl (cA 0, 6, .inl (fun _ => 0)))] := hD
  refine va_putF (D := D) (ci := 1) (v := .ref q2) (ty := .array .int) (C := RX1) (T := TX1) (N := 8) hx hb hts (hin_at (k := 1) rfl) tyX1 tyX1_ok nmX1 hown hK hP hD hS 0 rfl rfl 3 (by decide) (hts _ (wc_in (k := 5) rfl)) (fun _ h9 => h9) rfl hin rfl (by decide +kernel) rfl rfl (Nat.le_of_ble_eq_true rfl) dk_Crowd_17 (fun H locs hP hD hS => ?_)
  have hP : va_P D vwCl [(h0, .inr (1, [.int 0, .int 0, .ref q1, .ref q2, .null, .null, .null, .null])), (q1, .inl (cA 0, 6, .inl (fun _ => 0))), (q2, .inl (cA 0, 6, .inl (fun _ => 0)))] H := hP
  have hD : va_D A [(h0, .inr (1, [.int 0, .int 0, .ref q1, .ref q2, .null, .null, .null, .null])), (q1, .inl (cA 0, 6, .inl (fun _ => 0))), (q2, .inl (cA 0, 6, .inl (fun _ => 0)))] := hD
  refine lv_aload_n hx hb dk_Crowd_20 rfl (lv_at hl 0 rfl) ?_
  refine lv_bipush (v := 6) hx hb dk_Crowd_21 (by decide) ?_
  have hc3 : 2 + 1 ≤ 6 := by omega
  have hs3 : 0 + 6 + 6 + 6 ≤ 0 + 6 + 6 + 6 + 6 + 6 + 24 := by omega
  refine nw_a (ty := .int) (a0 := (6, .inl (fun _ => 0))) (t0 := 0) hx hb (hts _ (wc_in (k := 3) rfl)) rfl hK rfl hP hD hS hA (fun _ => rfl) (by decide) rfl (by decide) hc3 hs3 dk_Crowd_23 (fun q3 H hP hD hS => ?_)
  have hP : va_P D vwCl [(h0, .inr (1, [.int 0, .int 0, .ref q1, .ref q2, .null, .null, .null, .null])), (q1, .inl (cA 0, 6, .inl (fun _ => 0))), (q2, .inl (cA 0, 6, .inl (fun _ => 0))), (q3, .inl (cA 0, 6, .inl (fun _ => 0)))] H := hP
  have hD : va_D A [(h0, .inr (1, [.int 0, .int 0, .ref q1, .ref q2, .null, .null, .null, .null])), (q1, .inl (cA 0, 6, .inl (fun _ => 0))), (q2, .inl (cA 0, 6, .inl (fun _ => 0))), (q3, .inl (cA 0, 6, .inl (fun _ => 0)))] := hD
  refine va_putF (D := D) (ci := 1) (v := .ref q3) (ty := .array .int) (C := RX1) (T := TX1) (N := 8) hx hb hts (hin_at (k := 1) rfl) tyX1 tyX1_ok nmX1 hown hK hP hD hS 0 rfl rfl 4 (by decide) (hts _ (wc_in (k := 6) rfl)) (fun _ h9 => h9) rfl hin rfl (by decide +kernel) rfl rfl (Nat.le_of_ble_eq_true rfl) dk_Crowd_25 (fun H locs hP hD hS => ?_)
  have hP : va_P D vwCl [(h0, .inr (1, [.int 0, .int 0, .ref q1, .ref q2, .ref q3, .null, .null, .null])), (q1, .inl (cA 0, 6, .inl (fun _ => 0))), (q2, .inl (cA 0, 6, .inl (fun _ => 0))), (q3, .inl (cA 0, 6, .inl (fun _ => 0)))] H := hP
  have hD : va_D A [(h0, .inr (1, [.int 0, .int 0, .ref q1, .ref q2, .ref q3, .null, .null, .null])), (q1, .inl (cA 0, 6, .inl (fun _ => 0))), (q2, .inl (cA 0, 6, .inl (fun _ => 0))), (q3, .inl (cA 0, 6, .inl (fun _ => 0)))] := hD
  refine lv_aload_n hx hb dk_Crowd_28 rfl (lv_at hl 0 rfl) ?_
  refine lv_bipush (v := 6) hx hb dk_Crowd_29 (by decide) ?_
  have hc4 : 3 + 1 ≤ 6 := by omega
  have hs4 : 0 + 6 + 6 + 6 + 6 ≤ 0 + 6 + 6 + 6 + 6 + 6 + 24 := by omega
  refine nw_a (ty := .int) (a0 := (6, .inl (fun _ => 0))) (t0 := 0) hx hb (hts _ (wc_in (k := 3) rfl)) rfl hK rfl hP hD hS hA (fun _ => rfl) (by decide) rfl (by decide) hc4 hs4 dk_Crowd_31 (fun q4 H hP hD hS => ?_)
  have hP : va_P D vwCl [(h0, .inr (1, [.int 0, .int 0, .ref q1, .ref q2, .ref q3, .null, .null, .null])), (q1, .inl (cA 0, 6, .inl (fun _ => 0))), (q2, .inl (cA 0, 6, .inl (fun _ => 0))), (q3, .inl (cA 0, 6, .inl (fun _ => 0))), (q4, .inl (cA 0, 6, .inl (fun _ => 0)))] H := hP
  have hD : va_D A [(h0, .inr (1, [.int 0, .int 0, .ref q1, .ref q2, .ref q3, .null, .null, .null])), (q1, .inl (cA 0, 6, .inl (fun _ => 0))), (q2, .inl (cA 0, 6, .inl (fun _ => 0))), (q3, .inl (cA 0, 6, .inl (fun _ => 0))), (q4, .inl (cA 0, 6, .inl (fun _ => 0)))] := hD
  refine va_putF (D := D) (ci := 1) (v := .ref q4) (ty := .array .int) (C := RX1) (T := TX1) (N := 8) hx hb hts (hin_at (k := 1) rfl) tyX1 tyX1_ok nmX1 hown hK hP hD hS 0 rfl rfl 5 (by decide) (hts _ (wc_in (k := 7) rfl)) (fun _ h9 => h9) rfl hin rfl (by decide +kernel) rfl rfl (Nat.le_of_ble_eq_true rfl) dk_Crowd_33 (fun H locs hP hD hS => ?_)
  have hP : va_P D vwCl [(h0, .inr (1, [.int 0, .int 0, .ref q1, .ref q2, .ref q3, .ref q4, .null, .null])), (q1, .inl (cA 0, 6, .inl (fun _ => 0))), (q2, .inl (cA 0, 6, .inl (fun _ => 0))), (q3, .inl (cA 0, 6, .inl (fun _ => 0))), (q4, .inl (cA 0, 6, .inl (fun _ => 0)))] H := hP
  have hD : va_D A [(h0, .inr (1, [.int 0, .int 0, .ref q1, .ref q2, .ref q3, .ref q4, .null, .null])), (q1, .inl (cA 0, 6, .inl (fun _ => 0))), (q2, .inl (cA 0, 6, .inl (fun _ => 0))), (q3, .inl (cA 0, 6, .inl (fun _ => 0))), (q4, .inl (cA 0, 6, .inl (fun _ => 0)))] := hD
  refine lv_aload_n hx hb dk_Crowd_36 rfl (lv_at hl 0 rfl) ?_
  refine lv_bipush (v := 6) hx hb dk_Crowd_37 (by decide) ?_
  have hc5 : 4 + 1 ≤ 6 := by omega
  have hs5 : 0 + 6 + 6 + 6 + 6 + 6 ≤ 0 + 6 + 6 + 6 + 6 + 6 + 24 := by omega
  refine nw_a (ty := .boolean) (a0 := (6, .inl (fun _ => 0))) (t0 := 1) hx hb (hts _ (wc_in (k := 8) rfl)) rfl hK rfl hP hD hS hA (fun _ => rfl) (by decide) rfl (by decide) hc5 hs5 dk_Crowd_39 (fun q5 H hP hD hS => ?_)
  have hP : va_P D vwCl [(h0, .inr (1, [.int 0, .int 0, .ref q1, .ref q2, .ref q3, .ref q4, .null, .null])), (q1, .inl (cA 0, 6, .inl (fun _ => 0))), (q2, .inl (cA 0, 6, .inl (fun _ => 0))), (q3, .inl (cA 0, 6, .inl (fun _ => 0))), (q4, .inl (cA 0, 6, .inl (fun _ => 0))), (q5, .inl (cA 1, 6, .inl (fun _ => 0)))] H := hP
  have hD : va_D A [(h0, .inr (1, [.int 0, .int 0, .ref q1, .ref q2, .ref q3, .ref q4, .null, .null])), (q1, .inl (cA 0, 6, .inl (fun _ => 0))), (q2, .inl (cA 0, 6, .inl (fun _ => 0))), (q3, .inl (cA 0, 6, .inl (fun _ => 0))), (q4, .inl (cA 0, 6, .inl (fun _ => 0))), (q5, .inl (cA 1, 6, .inl (fun _ => 0)))] := hD
  refine va_putF (D := D) (ci := 1) (v := .ref q5) (ty := .array .boolean) (C := RX1) (T := TX1) (N := 8) hx hb hts (hin_at (k := 1) rfl) tyX1 tyX1_ok nmX1 hown hK hP hD hS 0 rfl rfl 6 (by decide) (hts _ (wc_in (k := 9) rfl)) (fun _ h9 => h9) rfl hin rfl (by decide +kernel) rfl rfl (Nat.le_of_ble_eq_true rfl) dk_Crowd_41 (fun H locs hP hD hS => ?_)
  have hP : va_P D vwCl [(h0, .inr (1, [.int 0, .int 0, .ref q1, .ref q2, .ref q3, .ref q4, .ref q5, .null])), (q1, .inl (cA 0, 6, .inl (fun _ => 0))), (q2, .inl (cA 0, 6, .inl (fun _ => 0))), (q3, .inl (cA 0, 6, .inl (fun _ => 0))), (q4, .inl (cA 0, 6, .inl (fun _ => 0))), (q5, .inl (cA 1, 6, .inl (fun _ => 0)))] H := hP
  have hD : va_D A [(h0, .inr (1, [.int 0, .int 0, .ref q1, .ref q2, .ref q3, .ref q4, .ref q5, .null])), (q1, .inl (cA 0, 6, .inl (fun _ => 0))), (q2, .inl (cA 0, 6, .inl (fun _ => 0))), (q3, .inl (cA 0, 6, .inl (fun _ => 0))), (q4, .inl (cA 0, 6, .inl (fun _ => 0))), (q5, .inl (cA 1, 6, .inl (fun _ => 0)))] := hD
  refine lv_aload_n hx hb dk_Crowd_44 rfl (lv_at hl 0 rfl) ?_
  refine lv_bipush (v := 24) hx hb dk_Crowd_45 (by decide) ?_
  have hc6 : 5 + 1 ≤ 6 := by omega
  have hs6 : 0 + 6 + 6 + 6 + 6 + 6 + 24 ≤ 0 + 6 + 6 + 6 + 6 + 6 + 24 := by omega
  refine nw_a (ty := .int) (a0 := (24, .inl (fun _ => 0))) (t0 := 0) hx hb (hts _ (wc_in (k := 3) rfl)) rfl hK rfl hP hD hS hA (fun _ => rfl) (by decide) rfl (by decide) hc6 hs6 dk_Crowd_47 (fun q6 H hP hD hS => ?_)
  have hP : va_P D vwCl [(h0, .inr (1, [.int 0, .int 0, .ref q1, .ref q2, .ref q3, .ref q4, .ref q5, .null])), (q1, .inl (cA 0, 6, .inl (fun _ => 0))), (q2, .inl (cA 0, 6, .inl (fun _ => 0))), (q3, .inl (cA 0, 6, .inl (fun _ => 0))), (q4, .inl (cA 0, 6, .inl (fun _ => 0))), (q5, .inl (cA 1, 6, .inl (fun _ => 0))), (q6, .inl (cA 0, 24, .inl (fun _ => 0)))] H := hP
  have hD : va_D A [(h0, .inr (1, [.int 0, .int 0, .ref q1, .ref q2, .ref q3, .ref q4, .ref q5, .null])), (q1, .inl (cA 0, 6, .inl (fun _ => 0))), (q2, .inl (cA 0, 6, .inl (fun _ => 0))), (q3, .inl (cA 0, 6, .inl (fun _ => 0))), (q4, .inl (cA 0, 6, .inl (fun _ => 0))), (q5, .inl (cA 1, 6, .inl (fun _ => 0))), (q6, .inl (cA 0, 24, .inl (fun _ => 0)))] := hD
  refine va_putF (D := D) (ci := 1) (v := .ref q6) (ty := .array .int) (C := RX1) (T := TX1) (N := 8) hx hb hts (hin_at (k := 1) rfl) tyX1 tyX1_ok nmX1 hown hK hP hD hS 0 rfl rfl 7 (by decide) (hts _ (wc_in (k := 10) rfl)) (fun _ h9 => h9) rfl hin rfl (by decide +kernel) rfl rfl (Nat.le_of_ble_eq_true rfl) dk_Crowd_49 (fun H locs hP hD hS => ?_)
  have hP : va_P D vwCl [(h0, .inr (1, [.int 0, .int 0, .ref q1, .ref q2, .ref q3, .ref q4, .ref q5, .ref q6])), (q1, .inl (cA 0, 6, .inl (fun _ => 0))), (q2, .inl (cA 0, 6, .inl (fun _ => 0))), (q3, .inl (cA 0, 6, .inl (fun _ => 0))), (q4, .inl (cA 0, 6, .inl (fun _ => 0))), (q5, .inl (cA 1, 6, .inl (fun _ => 0))), (q6, .inl (cA 0, 24, .inl (fun _ => 0)))] H := hP
  have hD : va_D A [(h0, .inr (1, [.int 0, .int 0, .ref q1, .ref q2, .ref q3, .ref q4, .ref q5, .ref q6])), (q1, .inl (cA 0, 6, .inl (fun _ => 0))), (q2, .inl (cA 0, 6, .inl (fun _ => 0))), (q3, .inl (cA 0, 6, .inl (fun _ => 0))), (q4, .inl (cA 0, 6, .inl (fun _ => 0))), (q5, .inl (cA 1, 6, .inl (fun _ => 0))), (q6, .inl (cA 0, 24, .inl (fun _ => 0)))] := hD
  have hP9 := hP.sub (ws' := [(h0, .inr (1, [.int 0, .int 0, .ref q1, .ref q2, .ref q3, .ref q4, .ref q5, .ref q6])), (q1, .inl (cA 0, 6, .inl (fun _ => 0))), (q2, .inl (cA 0, 6, .inl (fun _ => 0))), (q3, .inl (cA 0, 6, .inl (fun _ => 0))), (q4, .inl (cA 0, 6, .inl (fun _ => 0))), (q5, .inl (cA 1, 6, .inl (fun _ => 0))), (q6, .inl (cA 0, 24, .inl (fun _ => 0)))]) [0, 1, 2, 3, 4, 5, 6] rfl
  have hD9 := hD.sub (ws' := [(h0, .inr (1, [.int 0, .int 0, .ref q1, .ref q2, .ref q3, .ref q4, .ref q5, .ref q6])), (q1, .inl (cA 0, 6, .inl (fun _ => 0))), (q2, .inl (cA 0, 6, .inl (fun _ => 0))), (q3, .inl (cA 0, 6, .inl (fun _ => 0))), (q4, .inl (cA 0, 6, .inl (fun _ => 0))), (q5, .inl (cA 1, 6, .inl (fun _ => 0))), (q6, .inl (cA 0, 24, .inl (fun _ => 0)))]) [0, 1, 2, 3, 4, 5, 6] (by decide) rfl
  refine W.widen (k := 6) (n := 0 + 6 + 6 + 6 + 6 + 6 + 24) (by omega) (by omega) ?_
  exact W.vret hx hb hr (fun t ht hW => ⟨⟨(fun k => if k = 1 then q1 else if k = 2 then q2 else if k = 3 then q3 else if k = 4 then q4 else if k = 5 then q5 else if k = 6 then q6 else 0), rfl, trivial, by rw [ht]; exact hP9, va_K.moved hW.alike hK, hD9⟩, hS.F ht⟩) hS.2.2 dk_Crowd_52
abbrev wk_Notes : List Cond := .code ⟨"PealOfExcuses$Notes", "<init>", "(I)V"⟩ prog_6_method_1_code 2 none :: TW
abbrev ck_Notes (cA : Nat → ClassId) (h0 : Nat) (N : Nat) (n : Int32) (u : Nat → Nat) : va_W := [(h0, .inr (4, [.int n, .int 0, .ref (u 1), .ref (u 2), .ref (u 3)])), ((u 1), .inl (cA 0, N, .inl (fun _ => 0))), ((u 2), .inl (cA 0, N, .inl (fun _ => 0))), ((u 3), .inl (cA 0, N, .inl (fun _ => 0)))]
set_option maxHeartbeats 4000000 in
theorem k_Notes (l : Launch) (D : va_G) (cA : Nat → ClassId) (h0 sz : Nat) (n : Int32) (N : Nat) (hn0 : ¬ n < 0) (hN0 : n.toNatClampNeg = N) (hNb : N ≤ 100) : Met l ⟨"PealOfExcuses$Notes", "<init>", "(I)V"⟩ wk_Notes ({ frames := 1, cells := 3, slots := 0 + N + N + N, locals := 12 }) (va_Pc [.ref h0, .int n] (fun U => U.heap.size = sz ∧ va_P D vwCl [(h0, .inr (4, [.int 0, .int 0, .null, .null, .null]))] U.heap ∧ va_K D vwCl (tysOf cA) U ∧ va_D (fun _ => True) [(h0, .inr (4, [.int 0, .int 0, .null, .null, .null]))])) (va_Qv (fun _ : Nat → Nat => True) (fun u t => va_P D vwCl (ck_Notes cA h0 N n u) t.heap ∧ va_K D vwCl (tysOf cA) t ∧ va_D (va_A [(h0, .inr (4, [.int 0, .int 0, .null, .null, .null]))] sz) (ck_Notes cA h0 N n u)) (va_A [(h0, .inr (4, [.int 0, .int 0, .null, .null, .null]))] sz)) (3) (0 + N + N + N) (va_A [(h0, .inr (4, [.int 0, .int 0, .null, .null, .null]))] sz) := by
  refine Met.ofW (cc := prog_6_method_1_code) (maxL := 2) (ret := none) (by decide) rfl ?_
  intro p e s m args below meth c s₁ B hml hv
  obtain ⟨rfl, hsz, hP, hK, hD0⟩ := hv
  have hx := B.exec
  have hb := B.bytes
  have hr := B.returns
  have hts : ∀ w ∈ TW, w.before [.ref h0, .int n].toArray s = true := fun w hw => atoms_spec (ws := wk_Notes) B.pre w (List.mem_cons_of_mem _ hw)
  have hown : s.vm.findClass RX4 = some m.cls := findClass_of_methodNamed B.named
  have hlocks := B.notSynchronized
  have hin : meth.name = "<init>" := (name_of_methodNamed B.named B.method).1
  subst hsz
  have hD := hD0.self (sz := s.heap.size)
  generalize hAe : va_A [(h0, .inr (4, [.int 0, .int 0, .null, .null, .null]))] s.heap.size = A at hD ⊢
  have hA : ∀ q : Nat, s.heap.size ≤ q → A q := fun q h => by rw [← hAe]; exact Or.inr h
  have hS : va_S A s.heap s.heap [] := va_S.rf
  have hP : va_P D vwCl [(h0, .inr (4, [.int 0, .int 0, .null, .null, .null]))] s.heap := hP
  have hl := lv_entry ([.ref h0, .int n]) (n := 2) (Nat.le_of_ble_eq_true rfl)
  rw [lg_entry_eq]
  generalize (lg_sl ([.ref h0, .int n]) ++ List.replicate (2 - (lg_sl ([.ref h0, .int n])).length) Slot.unset).toArray = ls at hl ⊢
  have hl : lv_has ls 2 [(0, .ref h0), (1, .int n)] := hl
  refine lv_aload_n hx hb dk_Notes_0 rfl (lv_at hl 0 rfl) ?_
  refine W.objInit hx hb hown (hts _ (wc_in (k := 11) rfl)) (hts _ (wc_in (k := 1) rfl)) (hts _ (wc_in (k := 2) rfl)) rfl (by rw [hml]; exact hl.1) rfl dk_Notes_1 (Nat.le_of_ble_eq_true rfl) (Nat.le_of_ble_eq_true rfl) ?_
  refine W.eq (g2 := F0 m 4 ls []) rfl ?_
  refine lv_aload_n hx hb dk_Notes_4 rfl (lv_at hl 0 rfl) ?_
  refine lv_iload_n hx hb dk_Notes_5 rfl (lv_at hl 1 rfl) ?_
  refine va_putF (D := D) (ci := 4) (v := .int n) (ty := .int) (C := RX4) (T := TX4) (N := 5) hx hb hts (hin_at (k := 4) rfl) tyX4 tyX4_ok nmX4 hown hK hP hD hS 0 rfl rfl 0 (by decide) (hts _ (wc_in (k := 12) rfl)) (fun _ h9 => h9) rfl hin rfl (by decide +kernel) rfl rfl (Nat.le_of_ble_eq_true rfl) dk_Notes_6 (fun H locs hP hD hS => ?_)
  have hP : va_P D vwCl [(h0, .inr (4, [.int n, .int 0, .null, .null, .null]))] H := hP
  have hD : va_D A [(h0, .inr (4, [.int n, .int 0, .null, .null, .null]))] := hD
  refine lv_aload_n hx hb dk_Notes_9 rfl (lv_at hl 0 rfl) ?_
  refine lv_iload_n hx hb dk_Notes_10 rfl (lv_at hl 1 rfl) ?_
  have hc1 : 0 + 1 ≤ 3 := by omega
  have hs1 : 0 + N ≤ 0 + N + N + N := by omega
  refine nw_a (ty := .int) (a0 := (N, .inl (fun _ => 0))) (t0 := 0) hx hb (hts _ (wc_in (k := 3) rfl)) rfl hK rfl hP hD hS hA (fun _ => rfl) hn0 hN0 (by show N * 4 ≤ 536870912; omega) hc1 hs1 dk_Notes_11 (fun q1 H hP hD hS => ?_)
  have hP : va_P D vwCl [(h0, .inr (4, [.int n, .int 0, .null, .null, .null])), (q1, .inl (cA 0, N, .inl (fun _ => 0)))] H := hP
  have hD : va_D A [(h0, .inr (4, [.int n, .int 0, .null, .null, .null])), (q1, .inl (cA 0, N, .inl (fun _ => 0)))] := hD
  refine va_putF (D := D) (ci := 4) (v := .ref q1) (ty := .array .int) (C := RX4) (T := TX4) (N := 5) hx hb hts (hin_at (k := 4) rfl) tyX4 tyX4_ok nmX4 hown hK hP hD hS 0 rfl rfl 2 (by decide) (hts _ (wc_in (k := 13) rfl)) (fun _ h9 => h9) rfl hin rfl (by decide +kernel) rfl rfl (Nat.le_of_ble_eq_true rfl) dk_Notes_13 (fun H locs hP hD hS => ?_)
  have hP : va_P D vwCl [(h0, .inr (4, [.int n, .int 0, .ref q1, .null, .null])), (q1, .inl (cA 0, N, .inl (fun _ => 0)))] H := hP
  have hD : va_D A [(h0, .inr (4, [.int n, .int 0, .ref q1, .null, .null])), (q1, .inl (cA 0, N, .inl (fun _ => 0)))] := hD
  refine lv_aload_n hx hb dk_Notes_16 rfl (lv_at hl 0 rfl) ?_
  refine lv_iload_n hx hb dk_Notes_17 rfl (lv_at hl 1 rfl) ?_
  have hc2 : 1 + 1 ≤ 3 := by omega
  have hs2 : 0 + N + N ≤ 0 + N + N + N := by omega
  refine nw_a (ty := .int) (a0 := (N, .inl (fun _ => 0))) (t0 := 0) hx hb (hts _ (wc_in (k := 3) rfl)) rfl hK rfl hP hD hS hA (fun _ => rfl) hn0 hN0 (by show N * 4 ≤ 536870912; omega) hc2 hs2 dk_Notes_18 (fun q2 H hP hD hS => ?_)
  have hP : va_P D vwCl [(h0, .inr (4, [.int n, .int 0, .ref q1, .null, .null])), (q1, .inl (cA 0, N, .inl (fun _ => 0))), (q2, .inl (cA 0, N, .inl (fun _ => 0)))] H := hP
  have hD : va_D A [(h0, .inr (4, [.int n, .int 0, .ref q1, .null, .null])), (q1, .inl (cA 0, N, .inl (fun _ => 0))), (q2, .inl (cA 0, N, .inl (fun _ => 0)))] := hD
  refine va_putF (D := D) (ci := 4) (v := .ref q2) (ty := .array .int) (C := RX4) (T := TX4) (N := 5) hx hb hts (hin_at (k := 4) rfl) tyX4 tyX4_ok nmX4 hown hK hP hD hS 0 rfl rfl 3 (by decide) (hts _ (wc_in (k := 14) rfl)) (fun _ h9 => h9) rfl hin rfl (by decide +kernel) rfl rfl (Nat.le_of_ble_eq_true rfl) dk_Notes_20 (fun H locs hP hD hS => ?_)
  have hP : va_P D vwCl [(h0, .inr (4, [.int n, .int 0, .ref q1, .ref q2, .null])), (q1, .inl (cA 0, N, .inl (fun _ => 0))), (q2, .inl (cA 0, N, .inl (fun _ => 0)))] H := hP
  have hD : va_D A [(h0, .inr (4, [.int n, .int 0, .ref q1, .ref q2, .null])), (q1, .inl (cA 0, N, .inl (fun _ => 0))), (q2, .inl (cA 0, N, .inl (fun _ => 0)))] := hD
  refine lv_aload_n hx hb dk_Notes_23 rfl (lv_at hl 0 rfl) ?_
  refine lv_iload_n hx hb dk_Notes_24 rfl (lv_at hl 1 rfl) ?_
  have hc3 : 2 + 1 ≤ 3 := by omega
  have hs3 : 0 + N + N + N ≤ 0 + N + N + N := by omega
  refine nw_a (ty := .int) (a0 := (N, .inl (fun _ => 0))) (t0 := 0) hx hb (hts _ (wc_in (k := 3) rfl)) rfl hK rfl hP hD hS hA (fun _ => rfl) hn0 hN0 (by show N * 4 ≤ 536870912; omega) hc3 hs3 dk_Notes_25 (fun q3 H hP hD hS => ?_)
  have hP : va_P D vwCl [(h0, .inr (4, [.int n, .int 0, .ref q1, .ref q2, .null])), (q1, .inl (cA 0, N, .inl (fun _ => 0))), (q2, .inl (cA 0, N, .inl (fun _ => 0))), (q3, .inl (cA 0, N, .inl (fun _ => 0)))] H := hP
  have hD : va_D A [(h0, .inr (4, [.int n, .int 0, .ref q1, .ref q2, .null])), (q1, .inl (cA 0, N, .inl (fun _ => 0))), (q2, .inl (cA 0, N, .inl (fun _ => 0))), (q3, .inl (cA 0, N, .inl (fun _ => 0)))] := hD
  refine va_putF (D := D) (ci := 4) (v := .ref q3) (ty := .array .int) (C := RX4) (T := TX4) (N := 5) hx hb hts (hin_at (k := 4) rfl) tyX4 tyX4_ok nmX4 hown hK hP hD hS 0 rfl rfl 4 (by decide) (hts _ (wc_in (k := 15) rfl)) (fun _ h9 => h9) rfl hin rfl (by decide +kernel) rfl rfl (Nat.le_of_ble_eq_true rfl) dk_Notes_27 (fun H locs hP hD hS => ?_)
  have hP : va_P D vwCl [(h0, .inr (4, [.int n, .int 0, .ref q1, .ref q2, .ref q3])), (q1, .inl (cA 0, N, .inl (fun _ => 0))), (q2, .inl (cA 0, N, .inl (fun _ => 0))), (q3, .inl (cA 0, N, .inl (fun _ => 0)))] H := hP
  have hD : va_D A [(h0, .inr (4, [.int n, .int 0, .ref q1, .ref q2, .ref q3])), (q1, .inl (cA 0, N, .inl (fun _ => 0))), (q2, .inl (cA 0, N, .inl (fun _ => 0))), (q3, .inl (cA 0, N, .inl (fun _ => 0)))] := hD
  have hP9 := hP.sub (ws' := [(h0, .inr (4, [.int n, .int 0, .ref q1, .ref q2, .ref q3])), (q1, .inl (cA 0, N, .inl (fun _ => 0))), (q2, .inl (cA 0, N, .inl (fun _ => 0))), (q3, .inl (cA 0, N, .inl (fun _ => 0)))]) [0, 1, 2, 3] rfl
  have hD9 := hD.sub (ws' := [(h0, .inr (4, [.int n, .int 0, .ref q1, .ref q2, .ref q3])), (q1, .inl (cA 0, N, .inl (fun _ => 0))), (q2, .inl (cA 0, N, .inl (fun _ => 0))), (q3, .inl (cA 0, N, .inl (fun _ => 0)))]) [0, 1, 2, 3] (by decide) rfl
  refine W.widen (k := 3) (n := 0 + N + N + N) (by omega) (by omega) ?_
  exact W.vret hx hb hr (fun t ht hW => ⟨⟨(fun k => if k = 1 then q1 else if k = 2 then q2 else if k = 3 then q3 else 0), rfl, trivial, by rw [ht]; exact hP9, va_K.moved hW.alike hK, hD9⟩, hS.F ht⟩) hS.2.2 dk_Notes_30
abbrev wk_Town : List Cond := .code ⟨"PealOfExcuses$Town", "<init>", "()V"⟩ prog_9_method_1_code 1 none :: TW
abbrev ck_Town (cA : Nat → ClassId) (h0 : Nat) (u : Nat → Nat) : va_W := [(h0, .inr (7, [.int 0, .int 0, .int 0, .int 5, .ref (u 1), .ref (u 2), .ref (u 3), .ref (u 4)])), ((u 1), .inl (cA 0, 10, .inl (fun _ => 0))), ((u 2), .inl (cA 0, 10, .inl (fun _ => 0))), ((u 3), .inl (cA 0, 10, .inl (fun _ => 0))), ((u 4), .inl (cA 0, 100, .inl (fun _ => 0)))]
set_option maxHeartbeats 4000000 in
theorem k_Town (l : Launch) (D : va_G) (cA : Nat → ClassId) (h0 sz : Nat) : Met l ⟨"PealOfExcuses$Town", "<init>", "()V"⟩ wk_Town ({ frames := 1, cells := 4, slots := 0 + 10 + 10 + 10 + 100, locals := 12 }) (va_Pc [.ref h0] (fun U => U.heap.size = sz ∧ va_P D vwCl [(h0, .inr (7, [.int 0, .int 0, .int 0, .int 0, .null, .null, .null, .null]))] U.heap ∧ va_K D vwCl (tysOf cA) U ∧ va_D (fun _ => True) [(h0, .inr (7, [.int 0, .int 0, .int 0, .int 0, .null, .null, .null, .null]))])) (va_Qv (fun _ : Nat → Nat => True) (fun u t => va_P D vwCl (ck_Town cA h0 u) t.heap ∧ va_K D vwCl (tysOf cA) t ∧ va_D (va_A [(h0, .inr (7, [.int 0, .int 0, .int 0, .int 0, .null, .null, .null, .null]))] sz) (ck_Town cA h0 u)) (va_A [(h0, .inr (7, [.int 0, .int 0, .int 0, .int 0, .null, .null, .null, .null]))] sz)) (4) (0 + 10 + 10 + 10 + 100) (va_A [(h0, .inr (7, [.int 0, .int 0, .int 0, .int 0, .null, .null, .null, .null]))] sz) := by
  refine Met.ofW (cc := prog_9_method_1_code) (maxL := 1) (ret := none) (by decide) rfl ?_
  intro p e s m args below meth c s₁ B hml hv
  obtain ⟨rfl, hsz, hP, hK, hD0⟩ := hv
  have hx := B.exec
  have hb := B.bytes
  have hr := B.returns
  have hts : ∀ w ∈ TW, w.before [.ref h0].toArray s = true := fun w hw => atoms_spec (ws := wk_Town) B.pre w (List.mem_cons_of_mem _ hw)
  have hown : s.vm.findClass RX7 = some m.cls := findClass_of_methodNamed B.named
  have hlocks := B.notSynchronized
  have hin : meth.name = "<init>" := (name_of_methodNamed B.named B.method).1
  subst hsz
  have hD := hD0.self (sz := s.heap.size)
  generalize hAe : va_A [(h0, .inr (7, [.int 0, .int 0, .int 0, .int 0, .null, .null, .null, .null]))] s.heap.size = A at hD ⊢
  have hA : ∀ q : Nat, s.heap.size ≤ q → A q := fun q h => by rw [← hAe]; exact Or.inr h
  have hS : va_S A s.heap s.heap [] := va_S.rf
  have hP : va_P D vwCl [(h0, .inr (7, [.int 0, .int 0, .int 0, .int 0, .null, .null, .null, .null]))] s.heap := hP
  have hl := lv_entry ([.ref h0]) (n := 1) (Nat.le_of_ble_eq_true rfl)
  rw [lg_entry_eq]
  generalize (lg_sl ([.ref h0]) ++ List.replicate (1 - (lg_sl ([.ref h0])).length) Slot.unset).toArray = ls at hl ⊢
  have hl : lv_has ls 1 [(0, .ref h0)] := hl
  refine lv_aload_n hx hb dk_Town_0 rfl (lv_at hl 0 rfl) ?_
  refine W.objInit hx hb hown (hts _ (wc_in (k := 16) rfl)) (hts _ (wc_in (k := 1) rfl)) (hts _ (wc_in (k := 2) rfl)) rfl (by rw [hml]; exact hl.1) rfl dk_Town_1 (Nat.le_of_ble_eq_true rfl) (Nat.le_of_ble_eq_true rfl) ?_
  refine W.eq (g2 := F0 m 4 ls []) rfl ?_
  refine lv_aload_n hx hb dk_Town_4 rfl (lv_at hl 0 rfl) ?_
  refine lv_iconst (v := 5) hx hb dk_Town_5 (by decide) ?_
  refine va_put (D := D) (ci := 7) (v := .int 5) (ty := .int) (C := RX7) (T := TX7) (N := 8) hx hb hts (hin_at (k := 7) rfl) tyX7 tyX7_ok nmX7 hown hK hP hD hS 0 rfl rfl 3 (by decide) (hts _ (wc_in (k := 17) rfl)) (fun _ h9 => h9) rfl (by decide +kernel) rfl rfl (Nat.le_of_ble_eq_true rfl) dk_Town_6 (fun H locs hP hD hS => ?_)
  have hP : va_P D vwCl [(h0, .inr (7, [.int 0, .int 0, .int 0, .int 5, .null, .null, .null, .null]))] H := hP
  have hD : va_D A [(h0, .inr (7, [.int 0, .int 0, .int 0, .int 5, .null, .null, .null, .null]))] := hD
  refine lv_aload_n hx hb dk_Town_9 rfl (lv_at hl 0 rfl) ?_
  refine lv_bipush (v := 10) hx hb dk_Town_10 (by decide) ?_
  have hc1 : 0 + 1 ≤ 4 := by omega
  have hs1 : 0 + 10 ≤ 0 + 10 + 10 + 10 + 100 := by omega
  refine nw_a (ty := .int) (a0 := (10, .inl (fun _ => 0))) (t0 := 0) hx hb (hts _ (wc_in (k := 3) rfl)) rfl hK rfl hP hD hS hA (fun _ => rfl) (by decide) rfl (by decide) hc1 hs1 dk_Town_12 (fun q1 H hP hD hS => ?_)
  have hP : va_P D vwCl [(h0, .inr (7, [.int 0, .int 0, .int 0, .int 5, .null, .null, .null, .null])), (q1, .inl (cA 0, 10, .inl (fun _ => 0)))] H := hP
  have hD : va_D A [(h0, .inr (7, [.int 0, .int 0, .int 0, .int 5, .null, .null, .null, .null])), (q1, .inl (cA 0, 10, .inl (fun _ => 0)))] := hD
  refine va_putF (D := D) (ci := 7) (v := .ref q1) (ty := .array .int) (C := RX7) (T := TX7) (N := 8) hx hb hts (hin_at (k := 7) rfl) tyX7 tyX7_ok nmX7 hown hK hP hD hS 0 rfl rfl 4 (by decide) (hts _ (wc_in (k := 18) rfl)) (fun _ h9 => h9) rfl hin rfl (by decide +kernel) rfl rfl (Nat.le_of_ble_eq_true rfl) dk_Town_14 (fun H locs hP hD hS => ?_)
  have hP : va_P D vwCl [(h0, .inr (7, [.int 0, .int 0, .int 0, .int 5, .ref q1, .null, .null, .null])), (q1, .inl (cA 0, 10, .inl (fun _ => 0)))] H := hP
  have hD : va_D A [(h0, .inr (7, [.int 0, .int 0, .int 0, .int 5, .ref q1, .null, .null, .null])), (q1, .inl (cA 0, 10, .inl (fun _ => 0)))] := hD
  refine lv_aload_n hx hb dk_Town_17 rfl (lv_at hl 0 rfl) ?_
  refine lv_bipush (v := 10) hx hb dk_Town_18 (by decide) ?_
  have hc2 : 1 + 1 ≤ 4 := by omega
  have hs2 : 0 + 10 + 10 ≤ 0 + 10 + 10 + 10 + 100 := by omega
  refine nw_a (ty := .int) (a0 := (10, .inl (fun _ => 0))) (t0 := 0) hx hb (hts _ (wc_in (k := 3) rfl)) rfl hK rfl hP hD hS hA (fun _ => rfl) (by decide) rfl (by decide) hc2 hs2 dk_Town_20 (fun q2 H hP hD hS => ?_)
  have hP : va_P D vwCl [(h0, .inr (7, [.int 0, .int 0, .int 0, .int 5, .ref q1, .null, .null, .null])), (q1, .inl (cA 0, 10, .inl (fun _ => 0))), (q2, .inl (cA 0, 10, .inl (fun _ => 0)))] H := hP
  have hD : va_D A [(h0, .inr (7, [.int 0, .int 0, .int 0, .int 5, .ref q1, .null, .null, .null])), (q1, .inl (cA 0, 10, .inl (fun _ => 0))), (q2, .inl (cA 0, 10, .inl (fun _ => 0)))] := hD
  refine va_putF (D := D) (ci := 7) (v := .ref q2) (ty := .array .int) (C := RX7) (T := TX7) (N := 8) hx hb hts (hin_at (k := 7) rfl) tyX7 tyX7_ok nmX7 hown hK hP hD hS 0 rfl rfl 5 (by decide) (hts _ (wc_in (k := 19) rfl)) (fun _ h9 => h9) rfl hin rfl (by decide +kernel) rfl rfl (Nat.le_of_ble_eq_true rfl) dk_Town_22 (fun H locs hP hD hS => ?_)
  have hP : va_P D vwCl [(h0, .inr (7, [.int 0, .int 0, .int 0, .int 5, .ref q1, .ref q2, .null, .null])), (q1, .inl (cA 0, 10, .inl (fun _ => 0))), (q2, .inl (cA 0, 10, .inl (fun _ => 0)))] H := hP
  have hD : va_D A [(h0, .inr (7, [.int 0, .int 0, .int 0, .int 5, .ref q1, .ref q2, .null, .null])), (q1, .inl (cA 0, 10, .inl (fun _ => 0))), (q2, .inl (cA 0, 10, .inl (fun _ => 0)))] := hD
  refine lv_aload_n hx hb dk_Town_25 rfl (lv_at hl 0 rfl) ?_
  refine lv_bipush (v := 10) hx hb dk_Town_26 (by decide) ?_
  have hc3 : 2 + 1 ≤ 4 := by omega
  have hs3 : 0 + 10 + 10 + 10 ≤ 0 + 10 + 10 + 10 + 100 := by omega
  refine nw_a (ty := .int) (a0 := (10, .inl (fun _ => 0))) (t0 := 0) hx hb (hts _ (wc_in (k := 3) rfl)) rfl hK rfl hP hD hS hA (fun _ => rfl) (by decide) rfl (by decide) hc3 hs3 dk_Town_28 (fun q3 H hP hD hS => ?_)
  have hP : va_P D vwCl [(h0, .inr (7, [.int 0, .int 0, .int 0, .int 5, .ref q1, .ref q2, .null, .null])), (q1, .inl (cA 0, 10, .inl (fun _ => 0))), (q2, .inl (cA 0, 10, .inl (fun _ => 0))), (q3, .inl (cA 0, 10, .inl (fun _ => 0)))] H := hP
  have hD : va_D A [(h0, .inr (7, [.int 0, .int 0, .int 0, .int 5, .ref q1, .ref q2, .null, .null])), (q1, .inl (cA 0, 10, .inl (fun _ => 0))), (q2, .inl (cA 0, 10, .inl (fun _ => 0))), (q3, .inl (cA 0, 10, .inl (fun _ => 0)))] := hD
  refine va_putF (D := D) (ci := 7) (v := .ref q3) (ty := .array .int) (C := RX7) (T := TX7) (N := 8) hx hb hts (hin_at (k := 7) rfl) tyX7 tyX7_ok nmX7 hown hK hP hD hS 0 rfl rfl 6 (by decide) (hts _ (wc_in (k := 20) rfl)) (fun _ h9 => h9) rfl hin rfl (by decide +kernel) rfl rfl (Nat.le_of_ble_eq_true rfl) dk_Town_30 (fun H locs hP hD hS => ?_)
  have hP : va_P D vwCl [(h0, .inr (7, [.int 0, .int 0, .int 0, .int 5, .ref q1, .ref q2, .ref q3, .null])), (q1, .inl (cA 0, 10, .inl (fun _ => 0))), (q2, .inl (cA 0, 10, .inl (fun _ => 0))), (q3, .inl (cA 0, 10, .inl (fun _ => 0)))] H := hP
  have hD : va_D A [(h0, .inr (7, [.int 0, .int 0, .int 0, .int 5, .ref q1, .ref q2, .ref q3, .null])), (q1, .inl (cA 0, 10, .inl (fun _ => 0))), (q2, .inl (cA 0, 10, .inl (fun _ => 0))), (q3, .inl (cA 0, 10, .inl (fun _ => 0)))] := hD
  refine lv_aload_n hx hb dk_Town_33 rfl (lv_at hl 0 rfl) ?_
  refine lv_bipush (v := 100) hx hb dk_Town_34 (by decide) ?_
  have hc4 : 3 + 1 ≤ 4 := by omega
  have hs4 : 0 + 10 + 10 + 10 + 100 ≤ 0 + 10 + 10 + 10 + 100 := by omega
  refine nw_a (ty := .int) (a0 := (100, .inl (fun _ => 0))) (t0 := 0) hx hb (hts _ (wc_in (k := 3) rfl)) rfl hK rfl hP hD hS hA (fun _ => rfl) (by decide) rfl (by decide) hc4 hs4 dk_Town_36 (fun q4 H hP hD hS => ?_)
  have hP : va_P D vwCl [(h0, .inr (7, [.int 0, .int 0, .int 0, .int 5, .ref q1, .ref q2, .ref q3, .null])), (q1, .inl (cA 0, 10, .inl (fun _ => 0))), (q2, .inl (cA 0, 10, .inl (fun _ => 0))), (q3, .inl (cA 0, 10, .inl (fun _ => 0))), (q4, .inl (cA 0, 100, .inl (fun _ => 0)))] H := hP
  have hD : va_D A [(h0, .inr (7, [.int 0, .int 0, .int 0, .int 5, .ref q1, .ref q2, .ref q3, .null])), (q1, .inl (cA 0, 10, .inl (fun _ => 0))), (q2, .inl (cA 0, 10, .inl (fun _ => 0))), (q3, .inl (cA 0, 10, .inl (fun _ => 0))), (q4, .inl (cA 0, 100, .inl (fun _ => 0)))] := hD
  refine va_putF (D := D) (ci := 7) (v := .ref q4) (ty := .array .int) (C := RX7) (T := TX7) (N := 8) hx hb hts (hin_at (k := 7) rfl) tyX7 tyX7_ok nmX7 hown hK hP hD hS 0 rfl rfl 7 (by decide) (hts _ (wc_in (k := 21) rfl)) (fun _ h9 => h9) rfl hin rfl (by decide +kernel) rfl rfl (Nat.le_of_ble_eq_true rfl) dk_Town_38 (fun H locs hP hD hS => ?_)
  have hP : va_P D vwCl [(h0, .inr (7, [.int 0, .int 0, .int 0, .int 5, .ref q1, .ref q2, .ref q3, .ref q4])), (q1, .inl (cA 0, 10, .inl (fun _ => 0))), (q2, .inl (cA 0, 10, .inl (fun _ => 0))), (q3, .inl (cA 0, 10, .inl (fun _ => 0))), (q4, .inl (cA 0, 100, .inl (fun _ => 0)))] H := hP
  have hD : va_D A [(h0, .inr (7, [.int 0, .int 0, .int 0, .int 5, .ref q1, .ref q2, .ref q3, .ref q4])), (q1, .inl (cA 0, 10, .inl (fun _ => 0))), (q2, .inl (cA 0, 10, .inl (fun _ => 0))), (q3, .inl (cA 0, 10, .inl (fun _ => 0))), (q4, .inl (cA 0, 100, .inl (fun _ => 0)))] := hD
  have hP9 := hP.sub (ws' := [(h0, .inr (7, [.int 0, .int 0, .int 0, .int 5, .ref q1, .ref q2, .ref q3, .ref q4])), (q1, .inl (cA 0, 10, .inl (fun _ => 0))), (q2, .inl (cA 0, 10, .inl (fun _ => 0))), (q3, .inl (cA 0, 10, .inl (fun _ => 0))), (q4, .inl (cA 0, 100, .inl (fun _ => 0)))]) [0, 1, 2, 3, 4] rfl
  have hD9 := hD.sub (ws' := [(h0, .inr (7, [.int 0, .int 0, .int 0, .int 5, .ref q1, .ref q2, .ref q3, .ref q4])), (q1, .inl (cA 0, 10, .inl (fun _ => 0))), (q2, .inl (cA 0, 10, .inl (fun _ => 0))), (q3, .inl (cA 0, 10, .inl (fun _ => 0))), (q4, .inl (cA 0, 100, .inl (fun _ => 0)))]) [0, 1, 2, 3, 4] (by decide) rfl
  refine W.widen (k := 4) (n := 0 + 10 + 10 + 10 + 100) (by omega) (by omega) ?_
  exact W.vret hx hb hr (fun t ht hW => ⟨⟨(fun k => if k = 1 then q1 else if k = 2 then q2 else if k = 3 then q3 else if k = 4 then q4 else 0), rfl, trivial, by rw [ht]; exact hP9, va_K.moved hW.alike hK, hD9⟩, hS.F ht⟩) hS.2.2 dk_Town_41
abbrev wk_Reader : List Cond := .code ⟨"PealOfExcuses$Reader", "<init>", "()V"⟩ prog_7_method_1_code 1 none :: TW
abbrev ck_Reader (cA : Nat → ClassId) (h0 : Nat) (u : Nat → Nat) : va_W := [(h0, .inr (5, [.ref (u 1), .int 0, .int 0])), ((u 1), .inl (cA 2, 100, .inl (fun _ => 0)))]
set_option maxHeartbeats 4000000 in
theorem k_Reader (l : Launch) (D : va_G) (cA : Nat → ClassId) (h0 sz : Nat) : Met l ⟨"PealOfExcuses$Reader", "<init>", "()V"⟩ wk_Reader ({ frames := 1, cells := 1, slots := 0 + 100, locals := 12 }) (va_Pc [.ref h0] (fun U => U.heap.size = sz ∧ va_P D vwCl [(h0, .inr (5, [.null, .int 0, .int 0]))] U.heap ∧ va_K D vwCl (tysOf cA) U ∧ va_D (fun _ => True) [(h0, .inr (5, [.null, .int 0, .int 0]))])) (va_Qv (fun _ : Nat → Nat => True) (fun u t => va_P D vwCl (ck_Reader cA h0 u) t.heap ∧ va_K D vwCl (tysOf cA) t ∧ va_D (va_A [(h0, .inr (5, [.null, .int 0, .int 0]))] sz) (ck_Reader cA h0 u)) (va_A [(h0, .inr (5, [.null, .int 0, .int 0]))] sz)) (1) (0 + 100) (va_A [(h0, .inr (5, [.null, .int 0, .int 0]))] sz) := by
  refine Met.ofW (cc := prog_7_method_1_code) (maxL := 1) (ret := none) (by decide) rfl ?_
  intro p e s m args below meth c s₁ B hml hv
  obtain ⟨rfl, hsz, hP, hK, hD0⟩ := hv
  have hx := B.exec
  have hb := B.bytes
  have hr := B.returns
  have hts : ∀ w ∈ TW, w.before [.ref h0].toArray s = true := fun w hw => atoms_spec (ws := wk_Reader) B.pre w (List.mem_cons_of_mem _ hw)
  have hown : s.vm.findClass RX5 = some m.cls := findClass_of_methodNamed B.named
  have hlocks := B.notSynchronized
  have hin : meth.name = "<init>" := (name_of_methodNamed B.named B.method).1
  subst hsz
  have hD := hD0.self (sz := s.heap.size)
  generalize hAe : va_A [(h0, .inr (5, [.null, .int 0, .int 0]))] s.heap.size = A at hD ⊢
  have hA : ∀ q : Nat, s.heap.size ≤ q → A q := fun q h => by rw [← hAe]; exact Or.inr h
  have hS : va_S A s.heap s.heap [] := va_S.rf
  have hP : va_P D vwCl [(h0, .inr (5, [.null, .int 0, .int 0]))] s.heap := hP
  have hl := lv_entry ([.ref h0]) (n := 1) (Nat.le_of_ble_eq_true rfl)
  rw [lg_entry_eq]
  generalize (lg_sl ([.ref h0]) ++ List.replicate (1 - (lg_sl ([.ref h0])).length) Slot.unset).toArray = ls at hl ⊢
  have hl : lv_has ls 1 [(0, .ref h0)] := hl
  refine lv_aload_n hx hb dk_Reader_0 rfl (lv_at hl 0 rfl) ?_
  refine W.objInit hx hb hown (hts _ (wc_in (k := 22) rfl)) (hts _ (wc_in (k := 1) rfl)) (hts _ (wc_in (k := 2) rfl)) rfl (by rw [hml]; exact hl.1) rfl dk_Reader_1 (Nat.le_of_ble_eq_true rfl) (Nat.le_of_ble_eq_true rfl) ?_
  refine W.eq (g2 := F0 m 4 ls []) rfl ?_
  refine lv_aload_n hx hb dk_Reader_4 rfl (lv_at hl 0 rfl) ?_
  refine lv_bipush (v := 100) hx hb dk_Reader_5 (by decide) ?_
  have hc1 : 0 + 1 ≤ 1 := by omega
  have hs1 : 0 + 100 ≤ 0 + 100 := by omega
  refine nw_a (ty := .byte) (a0 := (100, .inl (fun _ => 0))) (t0 := 2) hx hb (hts _ (wc_in (k := 23) rfl)) rfl hK rfl hP hD hS hA (fun _ => rfl) (by decide) rfl (by decide) hc1 hs1 dk_Reader_7 (fun q1 H hP hD hS => ?_)
  have hP : va_P D vwCl [(h0, .inr (5, [.null, .int 0, .int 0])), (q1, .inl (cA 2, 100, .inl (fun _ => 0)))] H := hP
  have hD : va_D A [(h0, .inr (5, [.null, .int 0, .int 0])), (q1, .inl (cA 2, 100, .inl (fun _ => 0)))] := hD
  refine va_putF (D := D) (ci := 5) (v := .ref q1) (ty := .array .byte) (C := RX5) (T := TX5) (N := 3) hx hb hts (hin_at (k := 5) rfl) tyX5 tyX5_ok nmX5 hown hK hP hD hS 0 rfl rfl 0 (by decide) (hts _ (wc_in (k := 24) rfl)) (fun _ h9 => h9) rfl hin rfl (by decide +kernel) rfl rfl (Nat.le_of_ble_eq_true rfl) dk_Reader_9 (fun H locs hP hD hS => ?_)
  have hP : va_P D vwCl [(h0, .inr (5, [.ref q1, .int 0, .int 0])), (q1, .inl (cA 2, 100, .inl (fun _ => 0)))] H := hP
  have hD : va_D A [(h0, .inr (5, [.ref q1, .int 0, .int 0])), (q1, .inl (cA 2, 100, .inl (fun _ => 0)))] := hD
  have hP9 := hP.sub (ws' := [(h0, .inr (5, [.ref q1, .int 0, .int 0])), (q1, .inl (cA 2, 100, .inl (fun _ => 0)))]) [0, 1] rfl
  have hD9 := hD.sub (ws' := [(h0, .inr (5, [.ref q1, .int 0, .int 0])), (q1, .inl (cA 2, 100, .inl (fun _ => 0)))]) [0, 1] (by decide) rfl
  refine W.widen (k := 1) (n := 0 + 100) (by omega) (by omega) ?_
  exact W.vret hx hb hr (fun t ht hW => ⟨⟨(fun k => if k = 1 then q1 else 0), rfl, trivial, by rw [ht]; exact hP9, va_K.moved hW.alike hK, hD9⟩, hS.F ht⟩) hS.2.2 dk_Reader_12
abbrev wk_Morning : List Cond := .code ⟨"PealOfExcuses$Morning", "<init>", "()V"⟩ prog_5_method_1_code 1 none :: TW
abbrev ck_Morning (cA : Nat → ClassId) (h0 : Nat) (u : Nat → Nat) : va_W := [(h0, .inr (3, [.ref (u 1), .ref (u 2), .ref (u 3), .ref (u 4), .int 0, .int (-1), .int 0])), ((u 1), .inl (cA 0, 6, .inl (fun _ => 0))), ((u 2), .inl (cA 0, 6, .inl (fun _ => 0))), ((u 3), .inl (cA 0, 6, .inl (fun _ => 0))), ((u 4), .inl (cA 0, 6, .inl (fun _ => 0)))]
set_option maxHeartbeats 4000000 in
theorem k_Morning (l : Launch) (D : va_G) (cA : Nat → ClassId) (h0 sz : Nat) : Met l ⟨"PealOfExcuses$Morning", "<init>", "()V"⟩ wk_Morning ({ frames := 1, cells := 4, slots := 0 + 6 + 6 + 6 + 6, locals := 12 }) (va_Pc [.ref h0] (fun U => U.heap.size = sz ∧ va_P D vwCl [(h0, .inr (3, [.null, .null, .null, .null, .int 0, .int 0, .int 0]))] U.heap ∧ va_K D vwCl (tysOf cA) U ∧ va_D (fun _ => True) [(h0, .inr (3, [.null, .null, .null, .null, .int 0, .int 0, .int 0]))])) (va_Qv (fun _ : Nat → Nat => True) (fun u t => va_P D vwCl (ck_Morning cA h0 u) t.heap ∧ va_K D vwCl (tysOf cA) t ∧ va_D (va_A [(h0, .inr (3, [.null, .null, .null, .null, .int 0, .int 0, .int 0]))] sz) (ck_Morning cA h0 u)) (va_A [(h0, .inr (3, [.null, .null, .null, .null, .int 0, .int 0, .int 0]))] sz)) (4) (0 + 6 + 6 + 6 + 6) (va_A [(h0, .inr (3, [.null, .null, .null, .null, .int 0, .int 0, .int 0]))] sz) := by
  refine Met.ofW (cc := prog_5_method_1_code) (maxL := 1) (ret := none) (by decide) rfl ?_
  intro p e s m args below meth c s₁ B hml hv
  obtain ⟨rfl, hsz, hP, hK, hD0⟩ := hv
  have hx := B.exec
  have hb := B.bytes
  have hr := B.returns
  have hts : ∀ w ∈ TW, w.before [.ref h0].toArray s = true := fun w hw => atoms_spec (ws := wk_Morning) B.pre w (List.mem_cons_of_mem _ hw)
  have hown : s.vm.findClass RX3 = some m.cls := findClass_of_methodNamed B.named
  have hlocks := B.notSynchronized
  have hin : meth.name = "<init>" := (name_of_methodNamed B.named B.method).1
  subst hsz
  have hD := hD0.self (sz := s.heap.size)
  generalize hAe : va_A [(h0, .inr (3, [.null, .null, .null, .null, .int 0, .int 0, .int 0]))] s.heap.size = A at hD ⊢
  have hA : ∀ q : Nat, s.heap.size ≤ q → A q := fun q h => by rw [← hAe]; exact Or.inr h
  have hS : va_S A s.heap s.heap [] := va_S.rf
  have hP : va_P D vwCl [(h0, .inr (3, [.null, .null, .null, .null, .int 0, .int 0, .int 0]))] s.heap := hP
  have hl := lv_entry ([.ref h0]) (n := 1) (Nat.le_of_ble_eq_true rfl)
  rw [lg_entry_eq]
  generalize (lg_sl ([.ref h0]) ++ List.replicate (1 - (lg_sl ([.ref h0])).length) Slot.unset).toArray = ls at hl ⊢
  have hl : lv_has ls 1 [(0, .ref h0)] := hl
  refine lv_aload_n hx hb dk_Morning_0 rfl (lv_at hl 0 rfl) ?_
  refine W.objInit hx hb hown (hts _ (wc_in (k := 25) rfl)) (hts _ (wc_in (k := 1) rfl)) (hts _ (wc_in (k := 2) rfl)) rfl (by rw [hml]; exact hl.1) rfl dk_Morning_1 (Nat.le_of_ble_eq_true rfl) (Nat.le_of_ble_eq_true rfl) ?_
  refine W.eq (g2 := F0 m 4 ls []) rfl ?_
  refine lv_aload_n hx hb dk_Morning_4 rfl (lv_at hl 0 rfl) ?_
  refine lv_bipush (v := 6) hx hb dk_Morning_5 (by decide) ?_
  have hc1 : 0 + 1 ≤ 4 := by omega
  have hs1 : 0 + 6 ≤ 0 + 6 + 6 + 6 + 6 := by omega
  refine nw_a (ty := .int) (a0 := (6, .inl (fun _ => 0))) (t0 := 0) hx hb (hts _ (wc_in (k := 3) rfl)) rfl hK rfl hP hD hS hA (fun _ => rfl) (by decide) rfl (by decide) hc1 hs1 dk_Morning_7 (fun q1 H hP hD hS => ?_)
  have hP : va_P D vwCl [(h0, .inr (3, [.null, .null, .null, .null, .int 0, .int 0, .int 0])), (q1, .inl (cA 0, 6, .inl (fun _ => 0)))] H := hP
  have hD : va_D A [(h0, .inr (3, [.null, .null, .null, .null, .int 0, .int 0, .int 0])), (q1, .inl (cA 0, 6, .inl (fun _ => 0)))] := hD
  refine va_putF (D := D) (ci := 3) (v := .ref q1) (ty := .array .int) (C := RX3) (T := TX3) (N := 7) hx hb hts (hin_at (k := 3) rfl) tyX3 tyX3_ok nmX3 hown hK hP hD hS 0 rfl rfl 0 (by decide) (hts _ (wc_in (k := 26) rfl)) (fun _ h9 => h9) rfl hin rfl (by decide +kernel) rfl rfl (Nat.le_of_ble_eq_true rfl) dk_Morning_9 (fun H locs hP hD hS => ?_)
  have hP : va_P D vwCl [(h0, .inr (3, [.ref q1, .null, .null, .null, .int 0, .int 0, .int 0])), (q1, .inl (cA 0, 6, .inl (fun _ => 0)))] H := hP
  have hD : va_D A [(h0, .inr (3, [.ref q1, .null, .null, .null, .int 0, .int 0, .int 0])), (q1, .inl (cA 0, 6, .inl (fun _ => 0)))] := hD
  refine lv_aload_n hx hb dk_Morning_12 rfl (lv_at hl 0 rfl) ?_
  refine lv_bipush (v := 6) hx hb dk_Morning_13 (by decide) ?_
  have hc2 : 1 + 1 ≤ 4 := by omega
  have hs2 : 0 + 6 + 6 ≤ 0 + 6 + 6 + 6 + 6 := by omega
  refine nw_a (ty := .int) (a0 := (6, .inl (fun _ => 0))) (t0 := 0) hx hb (hts _ (wc_in (k := 3) rfl)) rfl hK rfl hP hD hS hA (fun _ => rfl) (by decide) rfl (by decide) hc2 hs2 dk_Morning_15 (fun q2 H hP hD hS => ?_)
  have hP : va_P D vwCl [(h0, .inr (3, [.ref q1, .null, .null, .null, .int 0, .int 0, .int 0])), (q1, .inl (cA 0, 6, .inl (fun _ => 0))), (q2, .inl (cA 0, 6, .inl (fun _ => 0)))] H := hP
  have hD : va_D A [(h0, .inr (3, [.ref q1, .null, .null, .null, .int 0, .int 0, .int 0])), (q1, .inl (cA 0, 6, .inl (fun _ => 0))), (q2, .inl (cA 0, 6, .inl (fun _ => 0)))] := hD
  refine va_putF (D := D) (ci := 3) (v := .ref q2) (ty := .array .int) (C := RX3) (T := TX3) (N := 7) hx hb hts (hin_at (k := 3) rfl) tyX3 tyX3_ok nmX3 hown hK hP hD hS 0 rfl rfl 1 (by decide) (hts _ (wc_in (k := 27) rfl)) (fun _ h9 => h9) rfl hin rfl (by decide +kernel) rfl rfl (Nat.le_of_ble_eq_true rfl) dk_Morning_17 (fun H locs hP hD hS => ?_)
  have hP : va_P D vwCl [(h0, .inr (3, [.ref q1, .ref q2, .null, .null, .int 0, .int 0, .int 0])), (q1, .inl (cA 0, 6, .inl (fun _ => 0))), (q2, .inl (cA 0, 6, .inl (fun _ => 0)))] H := hP
  have hD : va_D A [(h0, .inr (3, [.ref q1, .ref q2, .null, .null, .int 0, .int 0, .int 0])), (q1, .inl (cA 0, 6, .inl (fun _ => 0))), (q2, .inl (cA 0, 6, .inl (fun _ => 0)))] := hD
  refine lv_aload_n hx hb dk_Morning_20 rfl (lv_at hl 0 rfl) ?_
  refine lv_bipush (v := 6) hx hb dk_Morning_21 (by decide) ?_
  have hc3 : 2 + 1 ≤ 4 := by omega
  have hs3 : 0 + 6 + 6 + 6 ≤ 0 + 6 + 6 + 6 + 6 := by omega
  refine nw_a (ty := .int) (a0 := (6, .inl (fun _ => 0))) (t0 := 0) hx hb (hts _ (wc_in (k := 3) rfl)) rfl hK rfl hP hD hS hA (fun _ => rfl) (by decide) rfl (by decide) hc3 hs3 dk_Morning_23 (fun q3 H hP hD hS => ?_)
  have hP : va_P D vwCl [(h0, .inr (3, [.ref q1, .ref q2, .null, .null, .int 0, .int 0, .int 0])), (q1, .inl (cA 0, 6, .inl (fun _ => 0))), (q2, .inl (cA 0, 6, .inl (fun _ => 0))), (q3, .inl (cA 0, 6, .inl (fun _ => 0)))] H := hP
  have hD : va_D A [(h0, .inr (3, [.ref q1, .ref q2, .null, .null, .int 0, .int 0, .int 0])), (q1, .inl (cA 0, 6, .inl (fun _ => 0))), (q2, .inl (cA 0, 6, .inl (fun _ => 0))), (q3, .inl (cA 0, 6, .inl (fun _ => 0)))] := hD
  refine va_putF (D := D) (ci := 3) (v := .ref q3) (ty := .array .int) (C := RX3) (T := TX3) (N := 7) hx hb hts (hin_at (k := 3) rfl) tyX3 tyX3_ok nmX3 hown hK hP hD hS 0 rfl rfl 2 (by decide) (hts _ (wc_in (k := 28) rfl)) (fun _ h9 => h9) rfl hin rfl (by decide +kernel) rfl rfl (Nat.le_of_ble_eq_true rfl) dk_Morning_25 (fun H locs hP hD hS => ?_)
  have hP : va_P D vwCl [(h0, .inr (3, [.ref q1, .ref q2, .ref q3, .null, .int 0, .int 0, .int 0])), (q1, .inl (cA 0, 6, .inl (fun _ => 0))), (q2, .inl (cA 0, 6, .inl (fun _ => 0))), (q3, .inl (cA 0, 6, .inl (fun _ => 0)))] H := hP
  have hD : va_D A [(h0, .inr (3, [.ref q1, .ref q2, .ref q3, .null, .int 0, .int 0, .int 0])), (q1, .inl (cA 0, 6, .inl (fun _ => 0))), (q2, .inl (cA 0, 6, .inl (fun _ => 0))), (q3, .inl (cA 0, 6, .inl (fun _ => 0)))] := hD
  refine lv_aload_n hx hb dk_Morning_28 rfl (lv_at hl 0 rfl) ?_
  refine lv_bipush (v := 6) hx hb dk_Morning_29 (by decide) ?_
  have hc4 : 3 + 1 ≤ 4 := by omega
  have hs4 : 0 + 6 + 6 + 6 + 6 ≤ 0 + 6 + 6 + 6 + 6 := by omega
  refine nw_a (ty := .int) (a0 := (6, .inl (fun _ => 0))) (t0 := 0) hx hb (hts _ (wc_in (k := 3) rfl)) rfl hK rfl hP hD hS hA (fun _ => rfl) (by decide) rfl (by decide) hc4 hs4 dk_Morning_31 (fun q4 H hP hD hS => ?_)
  have hP : va_P D vwCl [(h0, .inr (3, [.ref q1, .ref q2, .ref q3, .null, .int 0, .int 0, .int 0])), (q1, .inl (cA 0, 6, .inl (fun _ => 0))), (q2, .inl (cA 0, 6, .inl (fun _ => 0))), (q3, .inl (cA 0, 6, .inl (fun _ => 0))), (q4, .inl (cA 0, 6, .inl (fun _ => 0)))] H := hP
  have hD : va_D A [(h0, .inr (3, [.ref q1, .ref q2, .ref q3, .null, .int 0, .int 0, .int 0])), (q1, .inl (cA 0, 6, .inl (fun _ => 0))), (q2, .inl (cA 0, 6, .inl (fun _ => 0))), (q3, .inl (cA 0, 6, .inl (fun _ => 0))), (q4, .inl (cA 0, 6, .inl (fun _ => 0)))] := hD
  refine va_putF (D := D) (ci := 3) (v := .ref q4) (ty := .array .int) (C := RX3) (T := TX3) (N := 7) hx hb hts (hin_at (k := 3) rfl) tyX3 tyX3_ok nmX3 hown hK hP hD hS 0 rfl rfl 3 (by decide) (hts _ (wc_in (k := 29) rfl)) (fun _ h9 => h9) rfl hin rfl (by decide +kernel) rfl rfl (Nat.le_of_ble_eq_true rfl) dk_Morning_33 (fun H locs hP hD hS => ?_)
  have hP : va_P D vwCl [(h0, .inr (3, [.ref q1, .ref q2, .ref q3, .ref q4, .int 0, .int 0, .int 0])), (q1, .inl (cA 0, 6, .inl (fun _ => 0))), (q2, .inl (cA 0, 6, .inl (fun _ => 0))), (q3, .inl (cA 0, 6, .inl (fun _ => 0))), (q4, .inl (cA 0, 6, .inl (fun _ => 0)))] H := hP
  have hD : va_D A [(h0, .inr (3, [.ref q1, .ref q2, .ref q3, .ref q4, .int 0, .int 0, .int 0])), (q1, .inl (cA 0, 6, .inl (fun _ => 0))), (q2, .inl (cA 0, 6, .inl (fun _ => 0))), (q3, .inl (cA 0, 6, .inl (fun _ => 0))), (q4, .inl (cA 0, 6, .inl (fun _ => 0)))] := hD
  refine lv_aload_n hx hb dk_Morning_36 rfl (lv_at hl 0 rfl) ?_
  refine lv_iconst (v := -1) hx hb dk_Morning_37 (by decide) ?_
  refine va_put (D := D) (ci := 3) (v := .int (-1)) (ty := .int) (C := RX3) (T := TX3) (N := 7) hx hb hts (hin_at (k := 3) rfl) tyX3 tyX3_ok nmX3 hown hK hP hD hS 0 rfl rfl 5 (by decide) (hts _ (wc_in (k := 30) rfl)) (fun _ h9 => h9) rfl (by decide +kernel) rfl rfl (Nat.le_of_ble_eq_true rfl) dk_Morning_38 (fun H locs hP hD hS => ?_)
  have hP : va_P D vwCl [(h0, .inr (3, [.ref q1, .ref q2, .ref q3, .ref q4, .int 0, .int (-1), .int 0])), (q1, .inl (cA 0, 6, .inl (fun _ => 0))), (q2, .inl (cA 0, 6, .inl (fun _ => 0))), (q3, .inl (cA 0, 6, .inl (fun _ => 0))), (q4, .inl (cA 0, 6, .inl (fun _ => 0)))] H := hP
  have hD : va_D A [(h0, .inr (3, [.ref q1, .ref q2, .ref q3, .ref q4, .int 0, .int (-1), .int 0])), (q1, .inl (cA 0, 6, .inl (fun _ => 0))), (q2, .inl (cA 0, 6, .inl (fun _ => 0))), (q3, .inl (cA 0, 6, .inl (fun _ => 0))), (q4, .inl (cA 0, 6, .inl (fun _ => 0)))] := hD
  have hP9 := hP.sub (ws' := [(h0, .inr (3, [.ref q1, .ref q2, .ref q3, .ref q4, .int 0, .int (-1), .int 0])), (q1, .inl (cA 0, 6, .inl (fun _ => 0))), (q2, .inl (cA 0, 6, .inl (fun _ => 0))), (q3, .inl (cA 0, 6, .inl (fun _ => 0))), (q4, .inl (cA 0, 6, .inl (fun _ => 0)))]) [0, 1, 2, 3, 4] rfl
  have hD9 := hD.sub (ws' := [(h0, .inr (3, [.ref q1, .ref q2, .ref q3, .ref q4, .int 0, .int (-1), .int 0])), (q1, .inl (cA 0, 6, .inl (fun _ => 0))), (q2, .inl (cA 0, 6, .inl (fun _ => 0))), (q3, .inl (cA 0, 6, .inl (fun _ => 0))), (q4, .inl (cA 0, 6, .inl (fun _ => 0)))]) [0, 1, 2, 3, 4] (by decide) rfl
  refine W.widen (k := 4) (n := 0 + 6 + 6 + 6 + 6) (by omega) (by omega) ?_
  exact W.vret hx hb hr (fun t ht hW => ⟨⟨(fun k => if k = 1 then q1 else if k = 2 then q2 else if k = 3 then q3 else if k = 4 then q4 else 0), rfl, trivial, by rw [ht]; exact hP9, va_K.moved hW.alike hK, hD9⟩, hS.F ht⟩) hS.2.2 dk_Morning_41
abbrev wk_Actor : List Cond := .code ⟨"PealOfExcuses$Actor", "<init>", "()V"⟩ prog_2_method_1_code 1 none :: TW
abbrev ck_Actor (cA : Nat → ClassId) (h0 : Nat) (u : Nat → Nat) : va_W := [(h0, .inr (0, [.ref (u 1), .int 0, .int 0, .int 0, .int 0])), ((u 1), .inl (cA 0, 20, .inl (fun _ => 0)))]
set_option maxHeartbeats 4000000 in
theorem k_Actor (l : Launch) (D : va_G) (cA : Nat → ClassId) (h0 sz : Nat) : Met l ⟨"PealOfExcuses$Actor", "<init>", "()V"⟩ wk_Actor ({ frames := 1, cells := 1, slots := 0 + 20, locals := 12 }) (va_Pc [.ref h0] (fun U => U.heap.size = sz ∧ va_P D vwCl [(h0, .inr (0, [.null, .int 0, .int 0, .int 0, .int 0]))] U.heap ∧ va_K D vwCl (tysOf cA) U ∧ va_D (fun _ => True) [(h0, .inr (0, [.null, .int 0, .int 0, .int 0, .int 0]))])) (va_Qv (fun _ : Nat → Nat => True) (fun u t => va_P D vwCl (ck_Actor cA h0 u) t.heap ∧ va_K D vwCl (tysOf cA) t ∧ va_D (va_A [(h0, .inr (0, [.null, .int 0, .int 0, .int 0, .int 0]))] sz) (ck_Actor cA h0 u)) (va_A [(h0, .inr (0, [.null, .int 0, .int 0, .int 0, .int 0]))] sz)) (1) (0 + 20) (va_A [(h0, .inr (0, [.null, .int 0, .int 0, .int 0, .int 0]))] sz) := by
  refine Met.ofW (cc := prog_2_method_1_code) (maxL := 1) (ret := none) (by decide) rfl ?_
  intro p e s m args below meth c s₁ B hml hv
  obtain ⟨rfl, hsz, hP, hK, hD0⟩ := hv
  have hx := B.exec
  have hb := B.bytes
  have hr := B.returns
  have hts : ∀ w ∈ TW, w.before [.ref h0].toArray s = true := fun w hw => atoms_spec (ws := wk_Actor) B.pre w (List.mem_cons_of_mem _ hw)
  have hown : s.vm.findClass RX0 = some m.cls := findClass_of_methodNamed B.named
  have hlocks := B.notSynchronized
  have hin : meth.name = "<init>" := (name_of_methodNamed B.named B.method).1
  subst hsz
  have hD := hD0.self (sz := s.heap.size)
  generalize hAe : va_A [(h0, .inr (0, [.null, .int 0, .int 0, .int 0, .int 0]))] s.heap.size = A at hD ⊢
  have hA : ∀ q : Nat, s.heap.size ≤ q → A q := fun q h => by rw [← hAe]; exact Or.inr h
  have hS : va_S A s.heap s.heap [] := va_S.rf
  have hP : va_P D vwCl [(h0, .inr (0, [.null, .int 0, .int 0, .int 0, .int 0]))] s.heap := hP
  have hl := lv_entry ([.ref h0]) (n := 1) (Nat.le_of_ble_eq_true rfl)
  rw [lg_entry_eq]
  generalize (lg_sl ([.ref h0]) ++ List.replicate (1 - (lg_sl ([.ref h0])).length) Slot.unset).toArray = ls at hl ⊢
  have hl : lv_has ls 1 [(0, .ref h0)] := hl
  refine lv_aload_n hx hb dk_Actor_0 rfl (lv_at hl 0 rfl) ?_
  refine W.objInit hx hb hown (hts _ (wc_in (k := 31) rfl)) (hts _ (wc_in (k := 1) rfl)) (hts _ (wc_in (k := 2) rfl)) rfl (by rw [hml]; exact hl.1) rfl dk_Actor_1 (Nat.le_of_ble_eq_true rfl) (Nat.le_of_ble_eq_true rfl) ?_
  refine W.eq (g2 := F0 m 4 ls []) rfl ?_
  refine lv_aload_n hx hb dk_Actor_4 rfl (lv_at hl 0 rfl) ?_
  refine lv_bipush (v := 20) hx hb dk_Actor_5 (by decide) ?_
  have hc1 : 0 + 1 ≤ 1 := by omega
  have hs1 : 0 + 20 ≤ 0 + 20 := by omega
  refine nw_a (ty := .int) (a0 := (20, .inl (fun _ => 0))) (t0 := 0) hx hb (hts _ (wc_in (k := 3) rfl)) rfl hK rfl hP hD hS hA (fun _ => rfl) (by decide) rfl (by decide) hc1 hs1 dk_Actor_7 (fun q1 H hP hD hS => ?_)
  have hP : va_P D vwCl [(h0, .inr (0, [.null, .int 0, .int 0, .int 0, .int 0])), (q1, .inl (cA 0, 20, .inl (fun _ => 0)))] H := hP
  have hD : va_D A [(h0, .inr (0, [.null, .int 0, .int 0, .int 0, .int 0])), (q1, .inl (cA 0, 20, .inl (fun _ => 0)))] := hD
  refine va_putF (D := D) (ci := 0) (v := .ref q1) (ty := .array .int) (C := RX0) (T := TX0) (N := 5) hx hb hts (hin_at (k := 0) rfl) tyX0 tyX0_ok nmX0 hown hK hP hD hS 0 rfl rfl 0 (by decide) (hts _ (wc_in (k := 32) rfl)) (fun _ h9 => h9) rfl hin rfl (by decide +kernel) rfl rfl (Nat.le_of_ble_eq_true rfl) dk_Actor_9 (fun H locs hP hD hS => ?_)
  have hP : va_P D vwCl [(h0, .inr (0, [.ref q1, .int 0, .int 0, .int 0, .int 0])), (q1, .inl (cA 0, 20, .inl (fun _ => 0)))] H := hP
  have hD : va_D A [(h0, .inr (0, [.ref q1, .int 0, .int 0, .int 0, .int 0])), (q1, .inl (cA 0, 20, .inl (fun _ => 0)))] := hD
  have hP9 := hP.sub (ws' := [(h0, .inr (0, [.ref q1, .int 0, .int 0, .int 0, .int 0])), (q1, .inl (cA 0, 20, .inl (fun _ => 0)))]) [0, 1] rfl
  have hD9 := hD.sub (ws' := [(h0, .inr (0, [.ref q1, .int 0, .int 0, .int 0, .int 0])), (q1, .inl (cA 0, 20, .inl (fun _ => 0)))]) [0, 1] (by decide) rfl
  refine W.widen (k := 1) (n := 0 + 20) (by omega) (by omega) ?_
  exact W.vret hx hb hr (fun t ht hW => ⟨⟨(fun k => if k = 1 then q1 else 0), rfl, trivial, by rw [ht]; exact hP9, va_K.moved hW.alike hK, hD9⟩, hS.F ht⟩) hS.2.2 dk_Actor_12
abbrev wk_Tape : List Cond := .code ⟨"PealOfExcuses$Tape", "<init>", "()V"⟩ prog_8_method_1_code 1 none :: TW
abbrev ck_Tape (cA : Nat → ClassId) (h0 : Nat) (u : Nat → Nat) : va_W := [(h0, .inr (6, [.int (-1), .int 0, .ref (u 1)])), ((u 1), .inl (cA 3, 60, .inr (.inl (fun _ => 0))))]
set_option maxHeartbeats 4000000 in
theorem k_Tape (l : Launch) (D : va_G) (cA : Nat → ClassId) (h0 sz : Nat) : Met l ⟨"PealOfExcuses$Tape", "<init>", "()V"⟩ wk_Tape ({ frames := 1, cells := 1, slots := 0 + 60, locals := 12 }) (va_Pc [.ref h0] (fun U => U.heap.size = sz ∧ va_P D vwCl [(h0, .inr (6, [.int 0, .int 0, .null]))] U.heap ∧ va_K D vwCl (tysOf cA) U ∧ va_D (fun _ => True) [(h0, .inr (6, [.int 0, .int 0, .null]))])) (va_Qv (fun _ : Nat → Nat => True) (fun u t => va_P D vwCl (ck_Tape cA h0 u) t.heap ∧ va_K D vwCl (tysOf cA) t ∧ va_D (va_A [(h0, .inr (6, [.int 0, .int 0, .null]))] sz) (ck_Tape cA h0 u)) (va_A [(h0, .inr (6, [.int 0, .int 0, .null]))] sz)) (1) (0 + 60) (va_A [(h0, .inr (6, [.int 0, .int 0, .null]))] sz) := by
  refine Met.ofW (cc := prog_8_method_1_code) (maxL := 1) (ret := none) (by decide) rfl ?_
  intro p e s m args below meth c s₁ B hml hv
  obtain ⟨rfl, hsz, hP, hK, hD0⟩ := hv
  have hx := B.exec
  have hb := B.bytes
  have hr := B.returns
  have hts : ∀ w ∈ TW, w.before [.ref h0].toArray s = true := fun w hw => atoms_spec (ws := wk_Tape) B.pre w (List.mem_cons_of_mem _ hw)
  have hown : s.vm.findClass RX6 = some m.cls := findClass_of_methodNamed B.named
  have hlocks := B.notSynchronized
  have hin : meth.name = "<init>" := (name_of_methodNamed B.named B.method).1
  subst hsz
  have hD := hD0.self (sz := s.heap.size)
  generalize hAe : va_A [(h0, .inr (6, [.int 0, .int 0, .null]))] s.heap.size = A at hD ⊢
  have hA : ∀ q : Nat, s.heap.size ≤ q → A q := fun q h => by rw [← hAe]; exact Or.inr h
  have hS : va_S A s.heap s.heap [] := va_S.rf
  have hP : va_P D vwCl [(h0, .inr (6, [.int 0, .int 0, .null]))] s.heap := hP
  have hl := lv_entry ([.ref h0]) (n := 1) (Nat.le_of_ble_eq_true rfl)
  rw [lg_entry_eq]
  generalize (lg_sl ([.ref h0]) ++ List.replicate (1 - (lg_sl ([.ref h0])).length) Slot.unset).toArray = ls at hl ⊢
  have hl : lv_has ls 1 [(0, .ref h0)] := hl
  refine lv_aload_n hx hb dk_Tape_0 rfl (lv_at hl 0 rfl) ?_
  refine W.objInit hx hb hown (hts _ (wc_in (k := 33) rfl)) (hts _ (wc_in (k := 1) rfl)) (hts _ (wc_in (k := 2) rfl)) rfl (by rw [hml]; exact hl.1) rfl dk_Tape_1 (Nat.le_of_ble_eq_true rfl) (Nat.le_of_ble_eq_true rfl) ?_
  refine W.eq (g2 := F0 m 4 ls []) rfl ?_
  refine lv_aload_n hx hb dk_Tape_4 rfl (lv_at hl 0 rfl) ?_
  refine lv_iconst (v := -1) hx hb dk_Tape_5 (by decide) ?_
  refine va_put (D := D) (ci := 6) (v := .int (-1)) (ty := .int) (C := RX6) (T := TX6) (N := 3) hx hb hts (hin_at (k := 6) rfl) tyX6 tyX6_ok nmX6 hown hK hP hD hS 0 rfl rfl 0 (by decide) (hts _ (wc_in (k := 34) rfl)) (fun _ h9 => h9) rfl (by decide +kernel) rfl rfl (Nat.le_of_ble_eq_true rfl) dk_Tape_6 (fun H locs hP hD hS => ?_)
  have hP : va_P D vwCl [(h0, .inr (6, [.int (-1), .int 0, .null]))] H := hP
  have hD : va_D A [(h0, .inr (6, [.int (-1), .int 0, .null]))] := hD
  refine lv_aload_n hx hb dk_Tape_9 rfl (lv_at hl 0 rfl) ?_
  refine lv_bipush (v := 60) hx hb dk_Tape_10 (by decide) ?_
  have hc1 : 0 + 1 ≤ 1 := by omega
  have hs1 : 0 + 60 ≤ 0 + 60 := by omega
  refine nw_a (ty := .long) (a0 := (60, .inr (.inl (fun _ => 0)))) (t0 := 3) hx hb (hts _ (wc_in (k := 35) rfl)) rfl hK rfl hP hD hS hA (fun _ => rfl) (by decide) rfl (by decide) hc1 hs1 dk_Tape_12 (fun q1 H hP hD hS => ?_)
  have hP : va_P D vwCl [(h0, .inr (6, [.int (-1), .int 0, .null])), (q1, .inl (cA 3, 60, .inr (.inl (fun _ => 0))))] H := hP
  have hD : va_D A [(h0, .inr (6, [.int (-1), .int 0, .null])), (q1, .inl (cA 3, 60, .inr (.inl (fun _ => 0))))] := hD
  refine va_putF (D := D) (ci := 6) (v := .ref q1) (ty := .array .long) (C := RX6) (T := TX6) (N := 3) hx hb hts (hin_at (k := 6) rfl) tyX6 tyX6_ok nmX6 hown hK hP hD hS 0 rfl rfl 2 (by decide) (hts _ (wc_in (k := 36) rfl)) (fun _ h9 => h9) rfl hin rfl (by decide +kernel) rfl rfl (Nat.le_of_ble_eq_true rfl) dk_Tape_14 (fun H locs hP hD hS => ?_)
  have hP : va_P D vwCl [(h0, .inr (6, [.int (-1), .int 0, .ref q1])), (q1, .inl (cA 3, 60, .inr (.inl (fun _ => 0))))] H := hP
  have hD : va_D A [(h0, .inr (6, [.int (-1), .int 0, .ref q1])), (q1, .inl (cA 3, 60, .inr (.inl (fun _ => 0))))] := hD
  have hP9 := hP.sub (ws' := [(h0, .inr (6, [.int (-1), .int 0, .ref q1])), (q1, .inl (cA 3, 60, .inr (.inl (fun _ => 0))))]) [0, 1] rfl
  have hD9 := hD.sub (ws' := [(h0, .inr (6, [.int (-1), .int 0, .ref q1])), (q1, .inl (cA 3, 60, .inr (.inl (fun _ => 0))))]) [0, 1] (by decide) rfl
  refine W.widen (k := 1) (n := 0 + 60) (by omega) (by omega) ?_
  exact W.vret hx hb hr (fun t ht hW => ⟨⟨(fun k => if k = 1 then q1 else 0), rfl, trivial, by rw [ht]; exact hP9, va_K.moved hW.alike hK, hD9⟩, hS.F ht⟩) hS.2.2 dk_Tape_17
