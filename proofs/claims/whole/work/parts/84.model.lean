/-! The reference's constructor. -/
set_option maxRecDepth 100000
def MX (p : Program) (s : State) (m : MethodId) (meth : Method) (c : Code) (args : Array Value) (D : va_G) (cA : Nat → ClassId) (A : Nat → Prop) (H0 : Heap) (ls : Array Slot) (h0 : Nat) : Prop := p.tables.exec = Jvm.exec ∧ c.code = prog_11_method_1_code ∧ (∀ w ∈ TW, w.before args s = true) ∧ s.vm.findClass RX9 = some m.cls ∧ va_K D vwCl (tysOf cA) s ∧ (∀ q, H0.size ≤ q → A q) ∧ meth.name = "<init>" ∧ lv_has ls 1 [(0, .ref h0)]
def MW (D : va_G) (A : Nat → Prop) (H0 : Heap) (h0 : Nat) (fs : List Value) (as : va_W) (H : Heap) (locs : List Loc) : Prop := va_P D vwCl ((h0, .inr (9, fs)) :: as) H ∧ va_D A ((h0, .inr (9, fs)) :: as) ∧ va_S A H0 H locs ∧ fs.length = 71
section
variable {p : Program} {l : Launch} {e : Env} {R : Room} {s : State} {m : MethodId} {args : Array Value} {below : List Frame} {meth : Method} {c : Code} {H H0 : Heap} {locs : List Loc} {cells slots : Nat} {Q : State → Prop} {ls : Array Slot} {D : va_G} {cA : Nat → ClassId} {A : Nat → Prop} {h0 pc pc3 : Nat} {fs : List Value} {as : va_W}
/-- a field of the object under way gets a value -/
theorem m_put (X : MX p s m meth c args D cA A H0 ls h0) {k index : Nat} {ty : FieldType} {v : Value} (hk : k < 71) (hw : Cond.fieldLink RX9 index RX9 (TX9 k).2.1 (TX9 k).2.2.1 ∈ TW) (hM : MW D A H0 h0 fs as H locs) (hdecl : (TX9 k).1 = RX9) (hd : parseFieldDescriptor (TX9 k).2.2.1 = some ty) (hn : narrow ty v = v) (hfit : fits ty v = true) (hdg : decode prog_11_method_1_code pc = .ok (.putfield index, 3)) {rest : List Value} (hfin : (TX9 k).2.2.2 = true ∨ (TX9 k).2.2.2 = false)
    (kk : ∀ H locs, MW D A H0 h0 (fs.set k v) as H locs → W p l e R s m args below meth c H locs cells slots Q (F0 m (pc + 3) ls rest)) : W p l e R s m args below meth c H locs cells slots Q (F0 m pc ls (v :: .ref h0 :: rest)) := by
  obtain ⟨hx, hb, hts, hown, hK, hA, hin, hl⟩ := X
  obtain ⟨hP, hD, hS, hlen⟩ := hM
  rcases hfin with hf | hf
  · refine va_putF (D := D) (ci := 9) (C := RX9) (T := TX9) (N := 71) (own := RX9) (ref := RX9) hx hb hts (hin_at (k := 9) rfl) tyX9 tyX9_ok nmX9 hown hK hP hD hS 0 rfl rfl k hk (hts _ hw) (fun x h9 => hdecl ▸ h9) hf hin hdecl hd hn hfit (by omega) hdg (fun H locs hP hD hS => ?_)
    exact kk H locs ⟨hP, hD, hS, by rw [List.length_set]; exact hlen⟩
  · refine va_put (D := D) (ci := 9) (C := RX9) (T := TX9) (N := 71) (own := RX9) (ref := RX9) hx hb hts (hin_at (k := 9) rfl) tyX9 tyX9_ok nmX9 hown hK hP hD hS 0 rfl rfl k hk (hts _ hw) (fun x h9 => hdecl ▸ h9) hf hd hn hfit (by omega) hdg (fun H locs hP hD hS => ?_)
    exact kk H locs ⟨hP, hD, hS, by rw [List.length_set]; exact hlen⟩
theorem x9_decl : ∀ k, k < 71 → (TX9 k).1 = RX9 := by decide +kernel
theorem bool_or (b : Bool) : b = true ∨ b = false := by cases b <;> simp
theorem m_con (X : MX p s m meth c args D cA A H0 ls h0) {k index : Nat} {ty : FieldType} {v : Int32} (hk : k < 71) (hw : Cond.fieldLink RX9 index RX9 (TX9 k).2.1 (TX9 k).2.2.1 ∈ TW) (hM : MW D A H0 h0 fs as H locs) (d1 : decode prog_11_method_1_code pc = .ok (.aload_n 0, 1)) (hpush : ∀ rest : List Value, W p l e R s m args below meth c H locs cells slots Q (F0 m pc3 ls (.int v :: rest)) → W p l e R s m args below meth c H locs cells slots Q (F0 m (pc + 1) ls rest)) (hz : (TX9 k).2.2.2 = false) (hd : parseFieldDescriptor (TX9 k).2.2.1 = some ty) (hn : narrow ty (.int v) = .int v) (hfit : fits ty (.int v) = true) (hdg : decode prog_11_method_1_code pc3 = .ok (.putfield index, 3))
    (kk : ∀ H locs, MW D A H0 h0 (fs.set k (.int v)) as H locs → W p l e R s m args below meth c H locs cells slots Q (F0 m (pc3 + 3) ls [])) : W p l e R s m args below meth c H locs cells slots Q (F0 m pc ls []) := by
  refine lv_aload_n X.1 X.2.1 d1 rfl (lv_at X.2.2.2.2.2.2.2 0 rfl) ?_
  refine hpush _ ?_
  exact m_put X hk hw hM (x9_decl k hk) hd hn hfit hdg (Or.inr hz) kk
theorem m_ar1 (X : MX p s m meth c args D cA A H0 ls h0) {lt : FieldType} {tc N' : Nat} {a0 : vp_A} {atype : ArrayType} {n : Int32} (harr : Cond.arrayClass lt ∈ TW) (hty : newarray.typeOf atype = lt) (ht : (tysOf cA)[tc]? = some (cA tc, lt)) (hM : MW D A H0 h0 fs as H locs) (ha : ∀ cA : ClassId, vp_cell cA a0 = arrV cA N' (fun _ => defaultValue lt)) (hn : ¬ n < 0) (hN : n.toNatClampNeg = N') (hbytes : N' * componentBytes lt ≤ 536870912) (hcells : cells + 1 ≤ R.cells) (hslots : slots + N' ≤ R.slots) (d1 : decode prog_11_method_1_code pc = .ok (.aload_n 0, 1)) (hpush : ∀ rest : List Value, W p l e R s m args below meth c H locs cells slots Q (F0 m pc3 ls (.int n :: rest)) → W p l e R s m args below meth c H locs cells slots Q (F0 m (pc + 1) ls rest)) (hdg : decode prog_11_method_1_code pc3 = .ok (.newarray atype, 2))
    (kk : ∀ q H locs, MW D A H0 h0 fs (as ++ [(q, .inl (cA tc, a0))]) H locs → W p l e R s m args below meth c H locs (cells + 1) (slots + N') Q (F0 m (pc3 + 2) ls [.ref q, .ref h0])) : W p l e R s m args below meth c H locs cells slots Q (F0 m pc ls []) := by
  refine lv_aload_n X.1 X.2.1 d1 rfl (lv_at X.2.2.2.2.2.2.2 0 rfl) ?_
  refine hpush _ ?_
  obtain ⟨hx, hb, hts, hown, hK, hA, hin, hl⟩ := X
  obtain ⟨hP, hD, hS, hlen⟩ := hM
  refine nw_a (t0 := tc) (cA := cA tc) hx hb (by rw [hty]; exact hts _ harr) hty hK ht hP hD hS hA ha hn hN hbytes hcells hslots hdg (fun q H hP hD hS => kk q H locs ⟨hP, hD, hS, hlen⟩)
theorem m_arr (X : MX p s m meth c args D cA A H0 ls h0) {k index : Nat} {ft lt : FieldType} {tc N' : Nat} {a0 : vp_A} {atype : ArrayType} {n : Int32} (hk : k < 71) (harr : Cond.arrayClass lt ∈ TW) (hw : Cond.fieldLink RX9 index RX9 (TX9 k).2.1 (TX9 k).2.2.1 ∈ TW) (hty : newarray.typeOf atype = lt) (ht : (tysOf cA)[tc]? = some (cA tc, lt)) (hM : MW D A H0 h0 fs as H locs) (ha : ∀ cA : ClassId, vp_cell cA a0 = arrV cA N' (fun _ => defaultValue lt)) (hn : ¬ n < 0) (hN : n.toNatClampNeg = N') (hbytes : N' * componentBytes lt ≤ 536870912) (hcells : cells + 1 ≤ R.cells) (hslots : slots + N' ≤ R.slots) (d1 : decode prog_11_method_1_code pc = .ok (.aload_n 0, 1)) (hpush : ∀ rest : List Value, W p l e R s m args below meth c H locs cells slots Q (F0 m pc3 ls (.int n :: rest)) → W p l e R s m args below meth c H locs cells slots Q (F0 m (pc + 1) ls rest)) (hdg : decode prog_11_method_1_code pc3 = .ok (.newarray atype, 2)) (hz : (TX9 k).2.2.2 = true) (hd : parseFieldDescriptor (TX9 k).2.2.1 = some (FieldType.array lt)) (hdg2 : decode prog_11_method_1_code (pc3 + 2) = .ok (.putfield index, 3))
    (kk : ∀ q H locs, MW D A H0 h0 (fs.set k (.ref q)) (as ++ [(q, .inl (cA tc, a0))]) H locs → W p l e R s m args below meth c H locs (cells + 1) (slots + N') Q (F0 m (pc3 + 2 + 3) ls [])) : W p l e R s m args below meth c H locs cells slots Q (F0 m pc ls []) := by
  refine m_ar1 X harr hty ht hM ha hn hN hbytes hcells hslots d1 hpush hdg (fun q H locs hM => ?_)
  exact m_put X hk hw hM (x9_decl k hk) hd rfl rfl hdg2 (Or.inl hz) (fun H locs hM => kk q H locs hM)
theorem m_ptq (X : MX p s m meth c args D cA A H0 ls h0) {k index q : Nat} {ft : FieldType} (hk : k < 71) (hw : Cond.fieldLink RX9 index RX9 (TX9 k).2.1 (TX9 k).2.2.1 ∈ TW) (hM : MW D A H0 h0 fs as H locs) (hz : (TX9 k).2.2.2 = true) (hd : parseFieldDescriptor (TX9 k).2.2.1 = some ft) (hn : narrow ft (.ref q) = .ref q) (hfit : fits ft (.ref q) = true) (hdg : decode prog_11_method_1_code pc = .ok (.putfield index, 3))
    (kk : ∀ H locs, MW D A H0 h0 (fs.set k (.ref q)) as H locs → W p l e R s m args below meth c H locs cells slots Q (F0 m (pc + 3) ls [])) : W p l e R s m args below meth c H locs cells slots Q (F0 m pc ls [.ref q, .ref h0]) :=
  m_put X hk hw hM (x9_decl k hk) hd hn hfit hdg (Or.inl hz) kk
/-- the newest array gets an int -/
theorem m_ias (X : MX p s m meth c args D cA A H0 ls h0) {n q : Nat} {f : Nat → Int32} {i x : Int32} {pc2 pc3 pc4 : Nat} (hM : MW D A H0 h0 fs (as ++ [(q, .inl (cA 0, n, .inl f))]) H locs) (ht : (tysOf cA)[0]? = some (cA 0, .int)) (hin : vp_in i n) (d1 : decode prog_11_method_1_code pc = .ok (.dup, 1)) (hp1 : ∀ rest : List Value, W p l e R s m args below meth c H locs cells slots Q (F0 m pc2 ls (.int i :: rest)) → W p l e R s m args below meth c H locs cells slots Q (F0 m (pc + 1) ls rest)) (hp2 : ∀ rest : List Value, W p l e R s m args below meth c H locs cells slots Q (F0 m pc3 ls (.int x :: rest)) → W p l e R s m args below meth c H locs cells slots Q (F0 m pc2 ls rest)) (hdg : decode prog_11_method_1_code pc3 = .ok (.iastore, 1))
    (kk : ∀ H locs, MW D A H0 h0 fs (as ++ [(q, .inl (cA 0, n, .inl (va_up f i.toNatClampNeg x)))]) H locs → W p l e R s m args below meth c H locs cells slots Q (F0 m (pc3 + 1) ls [.ref q, .ref h0])) : W p l e R s m args below meth c H locs cells slots Q (F0 m pc ls [.ref q, .ref h0]) := by
  refine lv_dup X.1 X.2.1 d1 rfl ?_
  refine hp1 _ (hp2 _ ?_)
  obtain ⟨hx, hb, hts, hown, hK, hA, hin9, hl⟩ := X
  obtain ⟨hP, hD, hS, hlen⟩ := hM
  have e : ((h0, .inr (9, fs)) :: (as ++ [(q, (.inl (cA 0, n, .inl f) : va_E))]) : va_W).set (as.length + 1) (q, .inl (cA 0, n, .inl (va_up f i.toNatClampNeg x))) = (h0, .inr (9, fs)) :: (as ++ [(q, .inl (cA 0, n, .inl (va_up f i.toNatClampNeg x)))]) := by
    rw [List.set_cons_succ, List.set_append_right _ _ (Nat.le_refl _)]; simp
  refine va_iast hx hb hK hP hD hS (as.length + 1) 0 (by simp) ht hin hdg (fun H locs hP hD hS => ?_)
  rw [e] at hP hD
  exact kk H locs ⟨hP, hD, hS, hlen⟩
end
theorem dk_Model_0 : decode prog_11_method_1_code 0 = .ok (.aload_n 0, 1) := by decide +kernel
theorem dk_Model_1 : decode prog_11_method_1_code 1 = .ok (.invokespecial 1, 3) := by decide +kernel
theorem dk_Model_4 : decode prog_11_method_1_code 4 = .ok (.aload_n 0, 1) := by decide +kernel
theorem dk_Model_5 : decode prog_11_method_1_code 5 = .ok (.iconst 0, 1) := by decide +kernel
theorem dk_Model_6 : decode prog_11_method_1_code 6 = .ok (.putfield 7, 3) := by decide +kernel
theorem dk_Model_9 : decode prog_11_method_1_code 9 = .ok (.aload_n 0, 1) := by decide +kernel
theorem dk_Model_10 : decode prog_11_method_1_code 10 = .ok (.iconst 0, 1) := by decide +kernel
theorem dk_Model_11 : decode prog_11_method_1_code 11 = .ok (.putfield 13, 3) := by decide +kernel
theorem dk_Model_14 : decode prog_11_method_1_code 14 = .ok (.aload_n 0, 1) := by decide +kernel
theorem dk_Model_15 : decode prog_11_method_1_code 15 = .ok (.iconst 0, 1) := by decide +kernel
theorem dk_Model_16 : decode prog_11_method_1_code 16 = .ok (.putfield 16, 3) := by decide +kernel
theorem dk_Model_19 : decode prog_11_method_1_code 19 = .ok (.aload_n 0, 1) := by decide +kernel
theorem dk_Model_20 : decode prog_11_method_1_code 20 = .ok (.bipush 6, 2) := by decide +kernel
theorem dk_Model_22 : decode prog_11_method_1_code 22 = .ok (.newarray .int, 2) := by decide +kernel
theorem dk_Model_24 : decode prog_11_method_1_code 24 = .ok (.putfield 19, 3) := by decide +kernel
theorem dk_Model_27 : decode prog_11_method_1_code 27 = .ok (.aload_n 0, 1) := by decide +kernel
theorem dk_Model_28 : decode prog_11_method_1_code 28 = .ok (.bipush 6, 2) := by decide +kernel
theorem dk_Model_30 : decode prog_11_method_1_code 30 = .ok (.newarray .int, 2) := by decide +kernel
theorem dk_Model_32 : decode prog_11_method_1_code 32 = .ok (.putfield 23, 3) := by decide +kernel
theorem dk_Model_35 : decode prog_11_method_1_code 35 = .ok (.aload_n 0, 1) := by decide +kernel
theorem dk_Model_36 : decode prog_11_method_1_code 36 = .ok (.bipush 6, 2) := by decide +kernel
theorem dk_Model_38 : decode prog_11_method_1_code 38 = .ok (.newarray .int, 2) := by decide +kernel
theorem dk_Model_40 : decode prog_11_method_1_code 40 = .ok (.putfield 26, 3) := by decide +kernel
theorem dk_Model_43 : decode prog_11_method_1_code 43 = .ok (.aload_n 0, 1) := by decide +kernel
theorem dk_Model_44 : decode prog_11_method_1_code 44 = .ok (.bipush 6, 2) := by decide +kernel
theorem dk_Model_46 : decode prog_11_method_1_code 46 = .ok (.newarray .int, 2) := by decide +kernel
theorem dk_Model_48 : decode prog_11_method_1_code 48 = .ok (.putfield 29, 3) := by decide +kernel
theorem dk_Model_51 : decode prog_11_method_1_code 51 = .ok (.aload_n 0, 1) := by decide +kernel
theorem dk_Model_52 : decode prog_11_method_1_code 52 = .ok (.bipush 24, 2) := by decide +kernel
theorem dk_Model_54 : decode prog_11_method_1_code 54 = .ok (.newarray .int, 2) := by decide +kernel
theorem dk_Model_56 : decode prog_11_method_1_code 56 = .ok (.putfield 32, 3) := by decide +kernel
theorem dk_Model_59 : decode prog_11_method_1_code 59 = .ok (.aload_n 0, 1) := by decide +kernel
theorem dk_Model_60 : decode prog_11_method_1_code 60 = .ok (.iconst 0, 1) := by decide +kernel
theorem dk_Model_61 : decode prog_11_method_1_code 61 = .ok (.putfield 35, 3) := by decide +kernel
theorem dk_Model_64 : decode prog_11_method_1_code 64 = .ok (.aload_n 0, 1) := by decide +kernel
theorem dk_Model_65 : decode prog_11_method_1_code 65 = .ok (.iconst (-1), 1) := by decide +kernel
theorem dk_Model_66 : decode prog_11_method_1_code 66 = .ok (.putfield 38, 3) := by decide +kernel
theorem dk_Model_69 : decode prog_11_method_1_code 69 = .ok (.aload_n 0, 1) := by decide +kernel
theorem dk_Model_70 : decode prog_11_method_1_code 70 = .ok (.iconst 0, 1) := by decide +kernel
theorem dk_Model_71 : decode prog_11_method_1_code 71 = .ok (.putfield 41, 3) := by decide +kernel
theorem dk_Model_74 : decode prog_11_method_1_code 74 = .ok (.aload_n 0, 1) := by decide +kernel
theorem dk_Model_75 : decode prog_11_method_1_code 75 = .ok (.iconst 0, 1) := by decide +kernel
theorem dk_Model_76 : decode prog_11_method_1_code 76 = .ok (.putfield 44, 3) := by decide +kernel
theorem dk_Model_79 : decode prog_11_method_1_code 79 = .ok (.aload_n 0, 1) := by decide +kernel
theorem dk_Model_80 : decode prog_11_method_1_code 80 = .ok (.iconst 0, 1) := by decide +kernel
theorem dk_Model_81 : decode prog_11_method_1_code 81 = .ok (.putfield 47, 3) := by decide +kernel
theorem dk_Model_84 : decode prog_11_method_1_code 84 = .ok (.aload_n 0, 1) := by decide +kernel
theorem dk_Model_85 : decode prog_11_method_1_code 85 = .ok (.bipush 100, 2) := by decide +kernel
theorem dk_Model_87 : decode prog_11_method_1_code 87 = .ok (.newarray .int, 2) := by decide +kernel
theorem dk_Model_89 : decode prog_11_method_1_code 89 = .ok (.putfield 50, 3) := by decide +kernel
theorem dk_Model_92 : decode prog_11_method_1_code 92 = .ok (.aload_n 0, 1) := by decide +kernel
theorem dk_Model_93 : decode prog_11_method_1_code 93 = .ok (.bipush 6, 2) := by decide +kernel
theorem dk_Model_95 : decode prog_11_method_1_code 95 = .ok (.newarray .int, 2) := by decide +kernel
theorem dk_Model_97 : decode prog_11_method_1_code 97 = .ok (.putfield 53, 3) := by decide +kernel
theorem dk_Model_100 : decode prog_11_method_1_code 100 = .ok (.aload_n 0, 1) := by decide +kernel
theorem dk_Model_101 : decode prog_11_method_1_code 101 = .ok (.bipush 60, 2) := by decide +kernel
theorem dk_Model_103 : decode prog_11_method_1_code 103 = .ok (.newarray .int, 2) := by decide +kernel
theorem dk_Model_105 : decode prog_11_method_1_code 105 = .ok (.putfield 56, 3) := by decide +kernel
theorem dk_Model_108 : decode prog_11_method_1_code 108 = .ok (.aload_n 0, 1) := by decide +kernel
theorem dk_Model_109 : decode prog_11_method_1_code 109 = .ok (.bipush 60, 2) := by decide +kernel
theorem dk_Model_111 : decode prog_11_method_1_code 111 = .ok (.newarray .int, 2) := by decide +kernel
theorem dk_Model_113 : decode prog_11_method_1_code 113 = .ok (.putfield 59, 3) := by decide +kernel
theorem dk_Model_116 : decode prog_11_method_1_code 116 = .ok (.aload_n 0, 1) := by decide +kernel
theorem dk_Model_117 : decode prog_11_method_1_code 117 = .ok (.bipush 60, 2) := by decide +kernel
theorem dk_Model_119 : decode prog_11_method_1_code 119 = .ok (.newarray .int, 2) := by decide +kernel
theorem dk_Model_121 : decode prog_11_method_1_code 121 = .ok (.putfield 62, 3) := by decide +kernel
theorem dk_Model_124 : decode prog_11_method_1_code 124 = .ok (.aload_n 0, 1) := by decide +kernel
theorem dk_Model_125 : decode prog_11_method_1_code 125 = .ok (.bipush 60, 2) := by decide +kernel
theorem dk_Model_127 : decode prog_11_method_1_code 127 = .ok (.newarray .int, 2) := by decide +kernel
theorem dk_Model_129 : decode prog_11_method_1_code 129 = .ok (.putfield 65, 3) := by decide +kernel
theorem dk_Model_132 : decode prog_11_method_1_code 132 = .ok (.aload_n 0, 1) := by decide +kernel
theorem dk_Model_133 : decode prog_11_method_1_code 133 = .ok (.sipush 600, 3) := by decide +kernel
theorem dk_Model_136 : decode prog_11_method_1_code 136 = .ok (.newarray .int, 2) := by decide +kernel
theorem dk_Model_138 : decode prog_11_method_1_code 138 = .ok (.putfield 68, 3) := by decide +kernel
theorem dk_Model_141 : decode prog_11_method_1_code 141 = .ok (.aload_n 0, 1) := by decide +kernel
theorem dk_Model_142 : decode prog_11_method_1_code 142 = .ok (.bipush 101, 2) := by decide +kernel
theorem dk_Model_144 : decode prog_11_method_1_code 144 = .ok (.newarray .int, 2) := by decide +kernel
theorem dk_Model_146 : decode prog_11_method_1_code 146 = .ok (.putfield 71, 3) := by decide +kernel
theorem dk_Model_149 : decode prog_11_method_1_code 149 = .ok (.aload_n 0, 1) := by decide +kernel
theorem dk_Model_150 : decode prog_11_method_1_code 150 = .ok (.iconst 0, 1) := by decide +kernel
theorem dk_Model_151 : decode prog_11_method_1_code 151 = .ok (.putfield 74, 3) := by decide +kernel
theorem dk_Model_154 : decode prog_11_method_1_code 154 = .ok (.aload_n 0, 1) := by decide +kernel
theorem dk_Model_155 : decode prog_11_method_1_code 155 = .ok (.iconst 0, 1) := by decide +kernel
theorem dk_Model_156 : decode prog_11_method_1_code 156 = .ok (.putfield 77, 3) := by decide +kernel
theorem dk_Model_159 : decode prog_11_method_1_code 159 = .ok (.aload_n 0, 1) := by decide +kernel
theorem dk_Model_160 : decode prog_11_method_1_code 160 = .ok (.iconst 0, 1) := by decide +kernel
theorem dk_Model_161 : decode prog_11_method_1_code 161 = .ok (.putfield 80, 3) := by decide +kernel
theorem dk_Model_164 : decode prog_11_method_1_code 164 = .ok (.aload_n 0, 1) := by decide +kernel
theorem dk_Model_165 : decode prog_11_method_1_code 165 = .ok (.bipush 16, 2) := by decide +kernel
theorem dk_Model_167 : decode prog_11_method_1_code 167 = .ok (.newarray .int, 2) := by decide +kernel
theorem dk_Model_169 : decode prog_11_method_1_code 169 = .ok (.dup, 1) := by decide +kernel
theorem dk_Model_170 : decode prog_11_method_1_code 170 = .ok (.iconst 0, 1) := by decide +kernel
theorem dk_Model_171 : decode prog_11_method_1_code 171 = .ok (.bipush 108, 2) := by decide +kernel
theorem dk_Model_173 : decode prog_11_method_1_code 173 = .ok (.iastore, 1) := by decide +kernel
theorem dk_Model_174 : decode prog_11_method_1_code 174 = .ok (.dup, 1) := by decide +kernel
theorem dk_Model_175 : decode prog_11_method_1_code 175 = .ok (.iconst 1, 1) := by decide +kernel
theorem dk_Model_176 : decode prog_11_method_1_code 176 = .ok (.bipush 97, 2) := by decide +kernel
theorem dk_Model_178 : decode prog_11_method_1_code 178 = .ok (.iastore, 1) := by decide +kernel
theorem dk_Model_179 : decode prog_11_method_1_code 179 = .ok (.dup, 1) := by decide +kernel
theorem dk_Model_180 : decode prog_11_method_1_code 180 = .ok (.iconst 2, 1) := by decide +kernel
theorem dk_Model_181 : decode prog_11_method_1_code 181 = .ok (.bipush 103, 2) := by decide +kernel
theorem dk_Model_183 : decode prog_11_method_1_code 183 = .ok (.iastore, 1) := by decide +kernel
theorem dk_Model_184 : decode prog_11_method_1_code 184 = .ok (.dup, 1) := by decide +kernel
theorem dk_Model_185 : decode prog_11_method_1_code 185 = .ok (.iconst 3, 1) := by decide +kernel
theorem dk_Model_186 : decode prog_11_method_1_code 186 = .ok (.bipush 104, 2) := by decide +kernel
theorem dk_Model_188 : decode prog_11_method_1_code 188 = .ok (.iastore, 1) := by decide +kernel
theorem dk_Model_189 : decode prog_11_method_1_code 189 = .ok (.dup, 1) := by decide +kernel
theorem dk_Model_190 : decode prog_11_method_1_code 190 = .ok (.iconst 4, 1) := by decide +kernel
theorem dk_Model_191 : decode prog_11_method_1_code 191 = .ok (.bipush 97, 2) := by decide +kernel
theorem dk_Model_193 : decode prog_11_method_1_code 193 = .ok (.iastore, 1) := by decide +kernel
theorem dk_Model_194 : decode prog_11_method_1_code 194 = .ok (.dup, 1) := by decide +kernel
theorem dk_Model_195 : decode prog_11_method_1_code 195 = .ok (.iconst 5, 1) := by decide +kernel
theorem dk_Model_196 : decode prog_11_method_1_code 196 = .ok (.bipush 115, 2) := by decide +kernel
theorem dk_Model_198 : decode prog_11_method_1_code 198 = .ok (.iastore, 1) := by decide +kernel
theorem dk_Model_199 : decode prog_11_method_1_code 199 = .ok (.dup, 1) := by decide +kernel
theorem dk_Model_200 : decode prog_11_method_1_code 200 = .ok (.bipush 6, 2) := by decide +kernel
theorem dk_Model_202 : decode prog_11_method_1_code 202 = .ok (.bipush 116, 2) := by decide +kernel
theorem dk_Model_204 : decode prog_11_method_1_code 204 = .ok (.iastore, 1) := by decide +kernel
theorem dk_Model_205 : decode prog_11_method_1_code 205 = .ok (.dup, 1) := by decide +kernel
theorem dk_Model_206 : decode prog_11_method_1_code 206 = .ok (.bipush 7, 2) := by decide +kernel
theorem dk_Model_208 : decode prog_11_method_1_code 208 = .ok (.bipush 101, 2) := by decide +kernel
theorem dk_Model_210 : decode prog_11_method_1_code 210 = .ok (.iastore, 1) := by decide +kernel
theorem dk_Model_211 : decode prog_11_method_1_code 211 = .ok (.dup, 1) := by decide +kernel
theorem dk_Model_212 : decode prog_11_method_1_code 212 = .ok (.bipush 8, 2) := by decide +kernel
theorem dk_Model_214 : decode prog_11_method_1_code 214 = .ok (.bipush 102, 2) := by decide +kernel
theorem dk_Model_216 : decode prog_11_method_1_code 216 = .ok (.iastore, 1) := by decide +kernel
theorem dk_Model_217 : decode prog_11_method_1_code 217 = .ok (.dup, 1) := by decide +kernel
theorem dk_Model_218 : decode prog_11_method_1_code 218 = .ok (.bipush 9, 2) := by decide +kernel
theorem dk_Model_220 : decode prog_11_method_1_code 220 = .ok (.bipush 97, 2) := by decide +kernel
theorem dk_Model_222 : decode prog_11_method_1_code 222 = .ok (.iastore, 1) := by decide +kernel
theorem dk_Model_223 : decode prog_11_method_1_code 223 = .ok (.dup, 1) := by decide +kernel
theorem dk_Model_224 : decode prog_11_method_1_code 224 = .ok (.bipush 10, 2) := by decide +kernel
theorem dk_Model_226 : decode prog_11_method_1_code 226 = .ok (.bipush 115, 2) := by decide +kernel
theorem dk_Model_228 : decode prog_11_method_1_code 228 = .ok (.iastore, 1) := by decide +kernel
theorem dk_Model_229 : decode prog_11_method_1_code 229 = .ok (.dup, 1) := by decide +kernel
theorem dk_Model_230 : decode prog_11_method_1_code 230 = .ok (.bipush 11, 2) := by decide +kernel
theorem dk_Model_232 : decode prog_11_method_1_code 232 = .ok (.bipush 116, 2) := by decide +kernel
theorem dk_Model_234 : decode prog_11_method_1_code 234 = .ok (.iastore, 1) := by decide +kernel
theorem dk_Model_235 : decode prog_11_method_1_code 235 = .ok (.dup, 1) := by decide +kernel
theorem dk_Model_236 : decode prog_11_method_1_code 236 = .ok (.bipush 12, 2) := by decide +kernel
theorem dk_Model_238 : decode prog_11_method_1_code 238 = .ok (.bipush 108, 2) := by decide +kernel
theorem dk_Model_240 : decode prog_11_method_1_code 240 = .ok (.iastore, 1) := by decide +kernel
theorem dk_Model_241 : decode prog_11_method_1_code 241 = .ok (.dup, 1) := by decide +kernel
theorem dk_Model_242 : decode prog_11_method_1_code 242 = .ok (.bipush 13, 2) := by decide +kernel
theorem dk_Model_244 : decode prog_11_method_1_code 244 = .ok (.bipush 111, 2) := by decide +kernel
theorem dk_Model_246 : decode prog_11_method_1_code 246 = .ok (.iastore, 1) := by decide +kernel
theorem dk_Model_247 : decode prog_11_method_1_code 247 = .ok (.dup, 1) := by decide +kernel
theorem dk_Model_248 : decode prog_11_method_1_code 248 = .ok (.bipush 14, 2) := by decide +kernel
theorem dk_Model_250 : decode prog_11_method_1_code 250 = .ok (.bipush 117, 2) := by decide +kernel
theorem dk_Model_252 : decode prog_11_method_1_code 252 = .ok (.iastore, 1) := by decide +kernel
theorem dk_Model_253 : decode prog_11_method_1_code 253 = .ok (.dup, 1) := by decide +kernel
theorem dk_Model_254 : decode prog_11_method_1_code 254 = .ok (.bipush 15, 2) := by decide +kernel
theorem dk_Model_256 : decode prog_11_method_1_code 256 = .ok (.bipush 100, 2) := by decide +kernel
theorem dk_Model_258 : decode prog_11_method_1_code 258 = .ok (.iastore, 1) := by decide +kernel
theorem dk_Model_259 : decode prog_11_method_1_code 259 = .ok (.putfield 83, 3) := by decide +kernel
theorem dk_Model_262 : decode prog_11_method_1_code 262 = .ok (.aload_n 0, 1) := by decide +kernel
theorem dk_Model_263 : decode prog_11_method_1_code 263 = .ok (.iconst (-1), 1) := by decide +kernel
theorem dk_Model_264 : decode prog_11_method_1_code 264 = .ok (.putfield 86, 3) := by decide +kernel
theorem dk_Model_267 : decode prog_11_method_1_code 267 = .ok (.aload_n 0, 1) := by decide +kernel
theorem dk_Model_268 : decode prog_11_method_1_code 268 = .ok (.bipush 100, 2) := by decide +kernel
theorem dk_Model_270 : decode prog_11_method_1_code 270 = .ok (.newarray .boolean, 2) := by decide +kernel
theorem dk_Model_272 : decode prog_11_method_1_code 272 = .ok (.putfield 89, 3) := by decide +kernel
theorem dk_Model_275 : decode prog_11_method_1_code 275 = .ok (.aload_n 0, 1) := by decide +kernel
theorem dk_Model_276 : decode prog_11_method_1_code 276 = .ok (.iconst 0, 1) := by decide +kernel
theorem dk_Model_277 : decode prog_11_method_1_code 277 = .ok (.putfield 93, 3) := by decide +kernel
theorem dk_Model_280 : decode prog_11_method_1_code 280 = .ok (.aload_n 0, 1) := by decide +kernel
theorem dk_Model_281 : decode prog_11_method_1_code 281 = .ok (.bipush 6, 2) := by decide +kernel
theorem dk_Model_283 : decode prog_11_method_1_code 283 = .ok (.newarray .int, 2) := by decide +kernel
theorem dk_Model_285 : decode prog_11_method_1_code 285 = .ok (.putfield 97, 3) := by decide +kernel
theorem dk_Model_288 : decode prog_11_method_1_code 288 = .ok (.aload_n 0, 1) := by decide +kernel
theorem dk_Model_289 : decode prog_11_method_1_code 289 = .ok (.bipush 6, 2) := by decide +kernel
theorem dk_Model_291 : decode prog_11_method_1_code 291 = .ok (.newarray .int, 2) := by decide +kernel
theorem dk_Model_293 : decode prog_11_method_1_code 293 = .ok (.putfield 100, 3) := by decide +kernel
theorem dk_Model_296 : decode prog_11_method_1_code 296 = .ok (.aload_n 0, 1) := by decide +kernel
theorem dk_Model_297 : decode prog_11_method_1_code 297 = .ok (.bipush 6, 2) := by decide +kernel
theorem dk_Model_299 : decode prog_11_method_1_code 299 = .ok (.newarray .boolean, 2) := by decide +kernel
theorem dk_Model_301 : decode prog_11_method_1_code 301 = .ok (.putfield 103, 3) := by decide +kernel
theorem dk_Model_304 : decode prog_11_method_1_code 304 = .ok (.aload_n 0, 1) := by decide +kernel
theorem dk_Model_305 : decode prog_11_method_1_code 305 = .ok (.iconst 0, 1) := by decide +kernel
theorem dk_Model_306 : decode prog_11_method_1_code 306 = .ok (.putfield 106, 3) := by decide +kernel
theorem dk_Model_309 : decode prog_11_method_1_code 309 = .ok (.aload_n 0, 1) := by decide +kernel
theorem dk_Model_310 : decode prog_11_method_1_code 310 = .ok (.iconst 0, 1) := by decide +kernel
theorem dk_Model_311 : decode prog_11_method_1_code 311 = .ok (.putfield 109, 3) := by decide +kernel
theorem dk_Model_314 : decode prog_11_method_1_code 314 = .ok (.aload_n 0, 1) := by decide +kernel
theorem dk_Model_315 : decode prog_11_method_1_code 315 = .ok (.bipush 6, 2) := by decide +kernel
theorem dk_Model_317 : decode prog_11_method_1_code 317 = .ok (.newarray .int, 2) := by decide +kernel
theorem dk_Model_319 : decode prog_11_method_1_code 319 = .ok (.putfield 112, 3) := by decide +kernel
theorem dk_Model_322 : decode prog_11_method_1_code 322 = .ok (.aload_n 0, 1) := by decide +kernel
theorem dk_Model_323 : decode prog_11_method_1_code 323 = .ok (.bipush 6, 2) := by decide +kernel
theorem dk_Model_325 : decode prog_11_method_1_code 325 = .ok (.newarray .int, 2) := by decide +kernel
theorem dk_Model_327 : decode prog_11_method_1_code 327 = .ok (.putfield 115, 3) := by decide +kernel
theorem dk_Model_330 : decode prog_11_method_1_code 330 = .ok (.aload_n 0, 1) := by decide +kernel
theorem dk_Model_331 : decode prog_11_method_1_code 331 = .ok (.iconst 0, 1) := by decide +kernel
theorem dk_Model_332 : decode prog_11_method_1_code 332 = .ok (.putfield 118, 3) := by decide +kernel
theorem dk_Model_335 : decode prog_11_method_1_code 335 = .ok (.aload_n 0, 1) := by decide +kernel
theorem dk_Model_336 : decode prog_11_method_1_code 336 = .ok (.iconst 5, 1) := by decide +kernel
theorem dk_Model_337 : decode prog_11_method_1_code 337 = .ok (.newarray .int, 2) := by decide +kernel
theorem dk_Model_339 : decode prog_11_method_1_code 339 = .ok (.putfield 121, 3) := by decide +kernel
theorem dk_Model_342 : decode prog_11_method_1_code 342 = .ok (.aload_n 0, 1) := by decide +kernel
theorem dk_Model_343 : decode prog_11_method_1_code 343 = .ok (.iconst 5, 1) := by decide +kernel
theorem dk_Model_344 : decode prog_11_method_1_code 344 = .ok (.newarray .int, 2) := by decide +kernel
theorem dk_Model_346 : decode prog_11_method_1_code 346 = .ok (.putfield 124, 3) := by decide +kernel
theorem dk_Model_349 : decode prog_11_method_1_code 349 = .ok (.aload_n 0, 1) := by decide +kernel
theorem dk_Model_350 : decode prog_11_method_1_code 350 = .ok (.iconst 5, 1) := by decide +kernel
theorem dk_Model_351 : decode prog_11_method_1_code 351 = .ok (.newarray .int, 2) := by decide +kernel
theorem dk_Model_353 : decode prog_11_method_1_code 353 = .ok (.putfield 127, 3) := by decide +kernel
theorem dk_Model_356 : decode prog_11_method_1_code 356 = .ok (.aload_n 0, 1) := by decide +kernel
theorem dk_Model_357 : decode prog_11_method_1_code 357 = .ok (.iconst 0, 1) := by decide +kernel
theorem dk_Model_358 : decode prog_11_method_1_code 358 = .ok (.putfield 130, 3) := by decide +kernel
theorem dk_Model_361 : decode prog_11_method_1_code 361 = .ok (.aload_n 0, 1) := by decide +kernel
theorem dk_Model_362 : decode prog_11_method_1_code 362 = .ok (.iconst 0, 1) := by decide +kernel
theorem dk_Model_363 : decode prog_11_method_1_code 363 = .ok (.putfield 133, 3) := by decide +kernel
theorem dk_Model_366 : decode prog_11_method_1_code 366 = .ok (.aload_n 0, 1) := by decide +kernel
theorem dk_Model_367 : decode prog_11_method_1_code 367 = .ok (.bipush 10, 2) := by decide +kernel
theorem dk_Model_369 : decode prog_11_method_1_code 369 = .ok (.newarray .int, 2) := by decide +kernel
theorem dk_Model_371 : decode prog_11_method_1_code 371 = .ok (.putfield 136, 3) := by decide +kernel
theorem dk_Model_374 : decode prog_11_method_1_code 374 = .ok (.aload_n 0, 1) := by decide +kernel
theorem dk_Model_375 : decode prog_11_method_1_code 375 = .ok (.bipush 10, 2) := by decide +kernel
theorem dk_Model_377 : decode prog_11_method_1_code 377 = .ok (.newarray .int, 2) := by decide +kernel
theorem dk_Model_379 : decode prog_11_method_1_code 379 = .ok (.putfield 139, 3) := by decide +kernel
theorem dk_Model_382 : decode prog_11_method_1_code 382 = .ok (.aload_n 0, 1) := by decide +kernel
theorem dk_Model_383 : decode prog_11_method_1_code 383 = .ok (.bipush 8, 2) := by decide +kernel
theorem dk_Model_385 : decode prog_11_method_1_code 385 = .ok (.newarray .int, 2) := by decide +kernel
theorem dk_Model_387 : decode prog_11_method_1_code 387 = .ok (.putfield 142, 3) := by decide +kernel
theorem dk_Model_390 : decode prog_11_method_1_code 390 = .ok (.aload_n 0, 1) := by decide +kernel
theorem dk_Model_391 : decode prog_11_method_1_code 391 = .ok (.bipush 8, 2) := by decide +kernel
theorem dk_Model_393 : decode prog_11_method_1_code 393 = .ok (.newarray .int, 2) := by decide +kernel
theorem dk_Model_395 : decode prog_11_method_1_code 395 = .ok (.putfield 145, 3) := by decide +kernel
theorem dk_Model_398 : decode prog_11_method_1_code 398 = .ok (.aload_n 0, 1) := by decide +kernel
theorem dk_Model_399 : decode prog_11_method_1_code 399 = .ok (.iconst 0, 1) := by decide +kernel
theorem dk_Model_400 : decode prog_11_method_1_code 400 = .ok (.putfield 148, 3) := by decide +kernel
theorem dk_Model_403 : decode prog_11_method_1_code 403 = .ok (.aload_n 0, 1) := by decide +kernel
theorem dk_Model_404 : decode prog_11_method_1_code 404 = .ok (.iconst (-1), 1) := by decide +kernel
theorem dk_Model_405 : decode prog_11_method_1_code 405 = .ok (.putfield 151, 3) := by decide +kernel
theorem dk_Model_408 : decode prog_11_method_1_code 408 = .ok (.aload_n 0, 1) := by decide +kernel
theorem dk_Model_409 : decode prog_11_method_1_code 409 = .ok (.iconst 0, 1) := by decide +kernel
theorem dk_Model_410 : decode prog_11_method_1_code 410 = .ok (.putfield 154, 3) := by decide +kernel
theorem dk_Model_413 : decode prog_11_method_1_code 413 = .ok (.aload_n 0, 1) := by decide +kernel
theorem dk_Model_414 : decode prog_11_method_1_code 414 = .ok (.iconst 0, 1) := by decide +kernel
theorem dk_Model_415 : decode prog_11_method_1_code 415 = .ok (.putfield 157, 3) := by decide +kernel
theorem dk_Model_418 : decode prog_11_method_1_code 418 = .ok (.aload_n 0, 1) := by decide +kernel
theorem dk_Model_419 : decode prog_11_method_1_code 419 = .ok (.iconst 0, 1) := by decide +kernel
theorem dk_Model_420 : decode prog_11_method_1_code 420 = .ok (.putfield 160, 3) := by decide +kernel
theorem dk_Model_423 : decode prog_11_method_1_code 423 = .ok (.aload_n 0, 1) := by decide +kernel
theorem dk_Model_424 : decode prog_11_method_1_code 424 = .ok (.iconst 0, 1) := by decide +kernel
theorem dk_Model_425 : decode prog_11_method_1_code 425 = .ok (.putfield 163, 3) := by decide +kernel
theorem dk_Model_428 : decode prog_11_method_1_code 428 = .ok (.aload_n 0, 1) := by decide +kernel
theorem dk_Model_429 : decode prog_11_method_1_code 429 = .ok (.iconst 0, 1) := by decide +kernel
theorem dk_Model_430 : decode prog_11_method_1_code 430 = .ok (.putfield 166, 3) := by decide +kernel
theorem dk_Model_433 : decode prog_11_method_1_code 433 = .ok (.aload_n 0, 1) := by decide +kernel
theorem dk_Model_434 : decode prog_11_method_1_code 434 = .ok (.iconst 0, 1) := by decide +kernel
theorem dk_Model_435 : decode prog_11_method_1_code 435 = .ok (.putfield 169, 3) := by decide +kernel
theorem dk_Model_438 : decode prog_11_method_1_code 438 = .ok (.aload_n 0, 1) := by decide +kernel
theorem dk_Model_439 : decode prog_11_method_1_code 439 = .ok (.bipush 6, 2) := by decide +kernel
theorem dk_Model_441 : decode prog_11_method_1_code 441 = .ok (.newarray .int, 2) := by decide +kernel
theorem dk_Model_443 : decode prog_11_method_1_code 443 = .ok (.putfield 172, 3) := by decide +kernel
theorem dk_Model_446 : decode prog_11_method_1_code 446 = .ok (.aload_n 0, 1) := by decide +kernel
theorem dk_Model_447 : decode prog_11_method_1_code 447 = .ok (.bipush 6, 2) := by decide +kernel
theorem dk_Model_449 : decode prog_11_method_1_code 449 = .ok (.newarray .int, 2) := by decide +kernel
theorem dk_Model_451 : decode prog_11_method_1_code 451 = .ok (.putfield 175, 3) := by decide +kernel
theorem dk_Model_454 : decode prog_11_method_1_code 454 = .ok (.aload_n 0, 1) := by decide +kernel
theorem dk_Model_455 : decode prog_11_method_1_code 455 = .ok (.bipush 6, 2) := by decide +kernel
theorem dk_Model_457 : decode prog_11_method_1_code 457 = .ok (.newarray .int, 2) := by decide +kernel
theorem dk_Model_459 : decode prog_11_method_1_code 459 = .ok (.putfield 178, 3) := by decide +kernel
theorem dk_Model_462 : decode prog_11_method_1_code 462 = .ok (.aload_n 0, 1) := by decide +kernel
theorem dk_Model_463 : decode prog_11_method_1_code 463 = .ok (.bipush 6, 2) := by decide +kernel
theorem dk_Model_465 : decode prog_11_method_1_code 465 = .ok (.newarray .int, 2) := by decide +kernel
theorem dk_Model_467 : decode prog_11_method_1_code 467 = .ok (.putfield 181, 3) := by decide +kernel
theorem dk_Model_470 : decode prog_11_method_1_code 470 = .ok (.aload_n 0, 1) := by decide +kernel
theorem dk_Model_471 : decode prog_11_method_1_code 471 = .ok (.bipush 24, 2) := by decide +kernel
theorem dk_Model_473 : decode prog_11_method_1_code 473 = .ok (.newarray .int, 2) := by decide +kernel
theorem dk_Model_475 : decode prog_11_method_1_code 475 = .ok (.putfield 184, 3) := by decide +kernel
theorem dk_Model_478 : decode prog_11_method_1_code 478 = .ok (.aload_n 0, 1) := by decide +kernel
theorem dk_Model_479 : decode prog_11_method_1_code 479 = .ok (.iconst 5, 1) := by decide +kernel
theorem dk_Model_480 : decode prog_11_method_1_code 480 = .ok (.newarray .int, 2) := by decide +kernel
theorem dk_Model_482 : decode prog_11_method_1_code 482 = .ok (.putfield 187, 3) := by decide +kernel
theorem dk_Model_485 : decode prog_11_method_1_code 485 = .ok (.aload_n 0, 1) := by decide +kernel
theorem dk_Model_486 : decode prog_11_method_1_code 486 = .ok (.iconst 5, 1) := by decide +kernel
theorem dk_Model_487 : decode prog_11_method_1_code 487 = .ok (.newarray .int, 2) := by decide +kernel
theorem dk_Model_489 : decode prog_11_method_1_code 489 = .ok (.putfield 190, 3) := by decide +kernel
theorem dk_Model_492 : decode prog_11_method_1_code 492 = .ok (.aload_n 0, 1) := by decide +kernel
theorem dk_Model_493 : decode prog_11_method_1_code 493 = .ok (.iconst 5, 1) := by decide +kernel
theorem dk_Model_494 : decode prog_11_method_1_code 494 = .ok (.newarray .int, 2) := by decide +kernel
theorem dk_Model_496 : decode prog_11_method_1_code 496 = .ok (.putfield 193, 3) := by decide +kernel
theorem dk_Model_499 : decode prog_11_method_1_code 499 = .ok (.aload_n 0, 1) := by decide +kernel
theorem dk_Model_500 : decode prog_11_method_1_code 500 = .ok (.bipush 10, 2) := by decide +kernel
theorem dk_Model_502 : decode prog_11_method_1_code 502 = .ok (.newarray .int, 2) := by decide +kernel
theorem dk_Model_504 : decode prog_11_method_1_code 504 = .ok (.putfield 196, 3) := by decide +kernel
theorem dk_Model_507 : decode prog_11_method_1_code 507 = .ok (.aload_n 0, 1) := by decide +kernel
theorem dk_Model_508 : decode prog_11_method_1_code 508 = .ok (.bipush 10, 2) := by decide +kernel
theorem dk_Model_510 : decode prog_11_method_1_code 510 = .ok (.newarray .int, 2) := by decide +kernel
theorem dk_Model_512 : decode prog_11_method_1_code 512 = .ok (.putfield 199, 3) := by decide +kernel
theorem dk_Model_515 : decode prog_11_method_1_code 515 = .ok (.aload_n 0, 1) := by decide +kernel
theorem dk_Model_516 : decode prog_11_method_1_code 516 = .ok (.bipush 8, 2) := by decide +kernel
theorem dk_Model_518 : decode prog_11_method_1_code 518 = .ok (.newarray .int, 2) := by decide +kernel
theorem dk_Model_520 : decode prog_11_method_1_code 520 = .ok (.putfield 202, 3) := by decide +kernel
theorem dk_Model_523 : decode prog_11_method_1_code 523 = .ok (.aload_n 0, 1) := by decide +kernel
theorem dk_Model_524 : decode prog_11_method_1_code 524 = .ok (.bipush 8, 2) := by decide +kernel
theorem dk_Model_526 : decode prog_11_method_1_code 526 = .ok (.newarray .int, 2) := by decide +kernel
theorem dk_Model_528 : decode prog_11_method_1_code 528 = .ok (.putfield 205, 3) := by decide +kernel
theorem dk_Model_531 : decode prog_11_method_1_code 531 = .ok (.aload_n 0, 1) := by decide +kernel
theorem dk_Model_532 : decode prog_11_method_1_code 532 = .ok (.iconst 0, 1) := by decide +kernel
theorem dk_Model_533 : decode prog_11_method_1_code 533 = .ok (.putfield 208, 3) := by decide +kernel
theorem dk_Model_536 : decode prog_11_method_1_code 536 = .ok (.aload_n 0, 1) := by decide +kernel
theorem dk_Model_537 : decode prog_11_method_1_code 537 = .ok (.bipush 20, 2) := by decide +kernel
theorem dk_Model_539 : decode prog_11_method_1_code 539 = .ok (.newarray .int, 2) := by decide +kernel
theorem dk_Model_541 : decode prog_11_method_1_code 541 = .ok (.putfield 211, 3) := by decide +kernel
theorem dk_Model_544 : decode prog_11_method_1_code 544 = .ok (.aload_n 0, 1) := by decide +kernel
theorem dk_Model_545 : decode prog_11_method_1_code 545 = .ok (.bipush 6, 2) := by decide +kernel
theorem dk_Model_547 : decode prog_11_method_1_code 547 = .ok (.newarray .int, 2) := by decide +kernel
theorem dk_Model_549 : decode prog_11_method_1_code 549 = .ok (.dup, 1) := by decide +kernel
theorem dk_Model_550 : decode prog_11_method_1_code 550 = .ok (.iconst 0, 1) := by decide +kernel
theorem dk_Model_551 : decode prog_11_method_1_code 551 = .ok (.iconst (-1), 1) := by decide +kernel
theorem dk_Model_552 : decode prog_11_method_1_code 552 = .ok (.iastore, 1) := by decide +kernel
theorem dk_Model_553 : decode prog_11_method_1_code 553 = .ok (.dup, 1) := by decide +kernel
theorem dk_Model_554 : decode prog_11_method_1_code 554 = .ok (.iconst 1, 1) := by decide +kernel
theorem dk_Model_555 : decode prog_11_method_1_code 555 = .ok (.iconst (-1), 1) := by decide +kernel
theorem dk_Model_556 : decode prog_11_method_1_code 556 = .ok (.iastore, 1) := by decide +kernel
theorem dk_Model_557 : decode prog_11_method_1_code 557 = .ok (.dup, 1) := by decide +kernel
theorem dk_Model_558 : decode prog_11_method_1_code 558 = .ok (.iconst 2, 1) := by decide +kernel
theorem dk_Model_559 : decode prog_11_method_1_code 559 = .ok (.iconst (-1), 1) := by decide +kernel
theorem dk_Model_560 : decode prog_11_method_1_code 560 = .ok (.iastore, 1) := by decide +kernel
theorem dk_Model_561 : decode prog_11_method_1_code 561 = .ok (.dup, 1) := by decide +kernel
theorem dk_Model_562 : decode prog_11_method_1_code 562 = .ok (.iconst 3, 1) := by decide +kernel
theorem dk_Model_563 : decode prog_11_method_1_code 563 = .ok (.iconst (-1), 1) := by decide +kernel
theorem dk_Model_564 : decode prog_11_method_1_code 564 = .ok (.iastore, 1) := by decide +kernel
theorem dk_Model_565 : decode prog_11_method_1_code 565 = .ok (.dup, 1) := by decide +kernel
theorem dk_Model_566 : decode prog_11_method_1_code 566 = .ok (.iconst 4, 1) := by decide +kernel
theorem dk_Model_567 : decode prog_11_method_1_code 567 = .ok (.iconst (-1), 1) := by decide +kernel
theorem dk_Model_568 : decode prog_11_method_1_code 568 = .ok (.iastore, 1) := by decide +kernel
theorem dk_Model_569 : decode prog_11_method_1_code 569 = .ok (.dup, 1) := by decide +kernel
theorem dk_Model_570 : decode prog_11_method_1_code 570 = .ok (.iconst 5, 1) := by decide +kernel
theorem dk_Model_571 : decode prog_11_method_1_code 571 = .ok (.iconst (-1), 1) := by decide +kernel
theorem dk_Model_572 : decode prog_11_method_1_code 572 = .ok (.iastore, 1) := by decide +kernel
theorem dk_Model_573 : decode prog_11_method_1_code 573 = .ok (.putfield 214, 3) := by decide +kernel
theorem dk_Model_576 : decode prog_11_method_1_code 576 = .ok (.aload_n 0, 1) := by decide +kernel
theorem dk_Model_577 : decode prog_11_method_1_code 577 = .ok (.bipush 6, 2) := by decide +kernel
theorem dk_Model_579 : decode prog_11_method_1_code 579 = .ok (.newarray .int, 2) := by decide +kernel
theorem dk_Model_581 : decode prog_11_method_1_code 581 = .ok (.putfield 217, 3) := by decide +kernel
theorem dk_Model_584 : decode prog_11_method_1_code 584 = .ok (.aload_n 0, 1) := by decide +kernel
theorem dk_Model_585 : decode prog_11_method_1_code 585 = .ok (.sipush 360, 3) := by decide +kernel
theorem dk_Model_588 : decode prog_11_method_1_code 588 = .ok (.newarray .long, 2) := by decide +kernel
theorem dk_Model_590 : decode prog_11_method_1_code 590 = .ok (.putfield 220, 3) := by decide +kernel
theorem dk_Model_593 : decode prog_11_method_1_code 593 = .ok (.aload_n 0, 1) := by decide +kernel
theorem dk_Model_594 : decode prog_11_method_1_code 594 = .ok (.bipush 60, 2) := by decide +kernel
theorem dk_Model_596 : decode prog_11_method_1_code 596 = .ok (.newarray .long, 2) := by decide +kernel
theorem dk_Model_598 : decode prog_11_method_1_code 598 = .ok (.putfield 224, 3) := by decide +kernel
theorem dk_Model_601 : decode prog_11_method_1_code 601 = .ok (.return_, 1) := by decide +kernel
def fsM0 : List Value := [.int 0, .int 0, .int 0, .null, .null, .null, .null, .null, .int 0, .int 0, .int 0, .int 0, .int 0, .null, .null, .null, .null, .null, .null, .null, .null, .int 0, .int 0, .int 0, .null, .int 0, .null, .int 0, .null, .null, .null, .int 0, .int 0, .null, .null, .int 0, .null, .null, .null, .int 0, .int 0, .null, .null, .null, .null, .int 0, .int 0, .int 0, .int 0, .int 0, .int 0, .int 0, .int 0, .null, .null, .null, .null, .null, .null, .null, .null, .null, .null, .null, .null, .int 0, .null, .null, .null, .null, .null]
abbrev wk_Model : List Cond := .code ⟨"PealOfExcusesModel", "<init>", "()V"⟩ prog_11_method_1_code 1 none :: TW
abbrev ck_Model (cA : Nat → ClassId) (h0 : Nat) (u : Nat → Nat) : va_W := [(h0, .inr (9, [.int 0, .int 0, .int 0, .ref (u 1), .ref (u 2), .ref (u 3), .ref (u 4), .ref (u 5), .int 0, .int (-1), .int 0, .int 0, .int 0, .ref (u 6), .ref (u 7), .ref (u 8), .ref (u 9), .ref (u 10), .ref (u 11), .ref (u 12), .ref (u 13), .int 0, .int 0, .int 0, .ref (u 14), .int (-1), .ref (u 15), .int 0, .ref (u 16), .ref (u 17), .ref (u 18), .int 0, .int 0, .ref (u 19), .ref (u 20), .int 0, .ref (u 21), .ref (u 22), .ref (u 23), .int 0, .int 0, .ref (u 24), .ref (u 25), .ref (u 26), .ref (u 27), .int 0, .int (-1), .int 0, .int 0, .int 0, .int 0, .int 0, .int 0, .ref (u 28), .ref (u 29), .ref (u 30), .ref (u 31), .ref (u 32), .ref (u 33), .ref (u 34), .ref (u 35), .ref (u 36), .ref (u 37), .ref (u 38), .ref (u 39), .int 0, .ref (u 40), .ref (u 41), .ref (u 42), .ref (u 43), .ref (u 44)])), ((u 1), .inl (cA 0, 6, .inl (fun _ => 0))), ((u 2), .inl (cA 0, 6, .inl (fun _ => 0))), ((u 3), .inl (cA 0, 6, .inl (fun _ => 0))), ((u 4), .inl (cA 0, 6, .inl (fun _ => 0))), ((u 5), .inl (cA 0, 24, .inl (fun _ => 0))), ((u 6), .inl (cA 0, 100, .inl (fun _ => 0))), ((u 7), .inl (cA 0, 6, .inl (fun _ => 0))), ((u 8), .inl (cA 0, 60, .inl (fun _ => 0))), ((u 9), .inl (cA 0, 60, .inl (fun _ => 0))), ((u 10), .inl (cA 0, 60, .inl (fun _ => 0))), ((u 11), .inl (cA 0, 60, .inl (fun _ => 0))), ((u 12), .inl (cA 0, 600, .inl (fun _ => 0))), ((u 13), .inl (cA 0, 101, .inl (fun _ => 0))), ((u 14), .inl (cA 0, 16, .inl (va_up (va_up (va_up (va_up (va_up (va_up (va_up (va_up (va_up (va_up (va_up (va_up (va_up (va_up (va_up (va_up (fun _ => 0) (0 : Int32).toNatClampNeg 108) (1 : Int32).toNatClampNeg 97) (2 : Int32).toNatClampNeg 103) (3 : Int32).toNatClampNeg 104) (4 : Int32).toNatClampNeg 97) (5 : Int32).toNatClampNeg 115) (6 : Int32).toNatClampNeg 116) (7 : Int32).toNatClampNeg 101) (8 : Int32).toNatClampNeg 102) (9 : Int32).toNatClampNeg 97) (10 : Int32).toNatClampNeg 115) (11 : Int32).toNatClampNeg 116) (12 : Int32).toNatClampNeg 108) (13 : Int32).toNatClampNeg 111) (14 : Int32).toNatClampNeg 117) (15 : Int32).toNatClampNeg 100))), ((u 15), .inl (cA 1, 100, .inl (fun _ => 0))), ((u 16), .inl (cA 0, 6, .inl (fun _ => 0))), ((u 17), .inl (cA 0, 6, .inl (fun _ => 0))), ((u 18), .inl (cA 1, 6, .inl (fun _ => 0))), ((u 19), .inl (cA 0, 6, .inl (fun _ => 0))), ((u 20), .inl (cA 0, 6, .inl (fun _ => 0))), ((u 21), .inl (cA 0, 5, .inl (fun _ => 0))), ((u 22), .inl (cA 0, 5, .inl (fun _ => 0))), ((u 23), .inl (cA 0, 5, .inl (fun _ => 0))), ((u 24), .inl (cA 0, 10, .inl (fun _ => 0))), ((u 25), .inl (cA 0, 10, .inl (fun _ => 0))), ((u 26), .inl (cA 0, 8, .inl (fun _ => 0))), ((u 27), .inl (cA 0, 8, .inl (fun _ => 0))), ((u 28), .inl (cA 0, 6, .inl (fun _ => 0))), ((u 29), .inl (cA 0, 6, .inl (fun _ => 0))), ((u 30), .inl (cA 0, 6, .inl (fun _ => 0))), ((u 31), .inl (cA 0, 6, .inl (fun _ => 0))), ((u 32), .inl (cA 0, 24, .inl (fun _ => 0))), ((u 33), .inl (cA 0, 5, .inl (fun _ => 0))), ((u 34), .inl (cA 0, 5, .inl (fun _ => 0))), ((u 35), .inl (cA 0, 5, .inl (fun _ => 0))), ((u 36), .inl (cA 0, 10, .inl (fun _ => 0))), ((u 37), .inl (cA 0, 10, .inl (fun _ => 0))), ((u 38), .inl (cA 0, 8, .inl (fun _ => 0))), ((u 39), .inl (cA 0, 8, .inl (fun _ => 0))), ((u 40), .inl (cA 0, 20, .inl (fun _ => 0))), ((u 41), .inl (cA 0, 6, .inl (va_up (va_up (va_up (va_up (va_up (va_up (fun _ => 0) (0 : Int32).toNatClampNeg (-1)) (1 : Int32).toNatClampNeg (-1)) (2 : Int32).toNatClampNeg (-1)) (3 : Int32).toNatClampNeg (-1)) (4 : Int32).toNatClampNeg (-1)) (5 : Int32).toNatClampNeg (-1)))), ((u 42), .inl (cA 0, 6, .inl (fun _ => 0))), ((u 43), .inl (cA 3, 360, .inr (.inl (fun _ => 0)))), ((u 44), .inl (cA 3, 60, .inr (.inl (fun _ => 0))))]
set_option maxHeartbeats 8000000 in
theorem k_Model (l : Launch) (D : va_G) (cA : Nat → ClassId) (h0 sz : Nat) : Met l ⟨"PealOfExcusesModel", "<init>", "()V"⟩ wk_Model ({ frames := 1, cells := 44, slots := 1843, locals := 12 }) (va_Pc [.ref h0] (fun U => U.heap.size = sz ∧ va_P D vwCl [(h0, .inr (9, fsM0))] U.heap ∧ va_K D vwCl (tysOf cA) U ∧ va_D (fun _ => True) [(h0, .inr (9, fsM0))])) (va_Qv (fun _ : Nat → Nat => True) (fun u t => va_P D vwCl (ck_Model cA h0 u) t.heap ∧ va_K D vwCl (tysOf cA) t ∧ va_D (va_A [(h0, .inr (9, fsM0))] sz) (ck_Model cA h0 u)) (va_A [(h0, .inr (9, fsM0))] sz)) 44 1843 (va_A [(h0, .inr (9, fsM0))] sz) := by
  refine Met.ofW (cc := prog_11_method_1_code) (maxL := 1) (ret := none) (by decide) rfl ?_
  intro p e s m args below meth c s₁ B hml hv
  obtain ⟨rfl, hsz, hP, hK, hD0⟩ := hv
  have hx := B.exec
  have hb := B.bytes
  have hr := B.returns
  have hts : ∀ w ∈ TW, w.before [.ref h0].toArray s = true := fun w hw => atoms_spec (ws := wk_Model) B.pre w (List.mem_cons_of_mem _ hw)
  have hown : s.vm.findClass RX9 = some m.cls := findClass_of_methodNamed B.named
  have hlocks := B.notSynchronized
  have hin : meth.name = "<init>" := (name_of_methodNamed B.named B.method).1
  subst hsz
  have hD := hD0.self (sz := s.heap.size)
  generalize hAe : va_A [(h0, .inr (9, fsM0))] s.heap.size = A at hD ⊢
  have hA : ∀ q : Nat, s.heap.size ≤ q → A q := fun q h => by rw [← hAe]; exact Or.inr h
  have hS : va_S A s.heap s.heap [] := va_S.rf
  have hl := lv_entry ([.ref h0]) (n := 1) (Nat.le_of_ble_eq_true rfl)
  rw [lg_entry_eq]
  generalize (lg_sl ([.ref h0]) ++ List.replicate (1 - (lg_sl ([.ref h0])).length) Slot.unset).toArray = ls at hl ⊢
  have hl : lv_has ls 1 [(0, .ref h0)] := hl
  have X : MX p s m meth c [.ref h0].toArray D cA A s.heap ls h0 := ⟨hx, hb, hts, hown, hK, hA, hin, hl⟩
  have hM : MW D A s.heap h0 fsM0 [] s.heap [] := ⟨hP, hD, hS, rfl⟩
  clear hP hD hS
  refine lv_aload_n hx hb dk_Model_0 rfl (lv_at hl 0 rfl) ?_
  refine W.objInit hx hb hown (hts _ (wc_in (k := 108) rfl)) (hts _ (wc_in (k := 1) rfl)) (hts _ (wc_in (k := 2) rfl)) rfl (by rw [hml]; exact hl.1) rfl dk_Model_1 (Nat.le_of_ble_eq_true rfl) (Nat.le_of_ble_eq_true rfl) ?_
  refine W.eq (g2 := F0 m 4 ls []) rfl ?_
  refine m_con X (k := 0) (ty := .int) (v := 0) (by decide) (wc_in (k := 37) rfl) hM dk_Model_4 (fun r h => lv_iconst (v := 0) X.1 X.2.1 dk_Model_5 (by decide) h) rfl (by decide +kernel) rfl rfl dk_Model_6 (fun H locs hM => ?_)
  refine m_con X (k := 1) (ty := .int) (v := 0) (by decide) (wc_in (k := 38) rfl) hM dk_Model_9 (fun r h => lv_iconst (v := 0) X.1 X.2.1 dk_Model_10 (by decide) h) rfl (by decide +kernel) rfl rfl dk_Model_11 (fun H locs hM => ?_)
  refine m_con X (k := 2) (ty := .int) (v := 0) (by decide) (wc_in (k := 39) rfl) hM dk_Model_14 (fun r h => lv_iconst (v := 0) X.1 X.2.1 dk_Model_15 (by decide) h) rfl (by decide +kernel) rfl rfl dk_Model_16 (fun H locs hM => ?_)
  refine m_arr X (k := 3) (ft := .array .int) (lt := .int) (tc := 0) (N' := 6) (a0 := (6, .inl (fun _ => 0))) (by decide) (wc_in (k := 3) rfl) (wc_in (k := 40) rfl) rfl rfl hM (fun _ => rfl) (by decide) rfl (by decide) (by omega) (by omega) dk_Model_19 (fun r h => lv_bipush (v := 6) X.1 X.2.1 dk_Model_20 (by decide) h) dk_Model_22 rfl (by decide +kernel) dk_Model_24 (fun q1 H locs hM => ?_)
  refine W.widen (k := 1) (n := 6) (by omega) (by omega) ?_
  refine m_arr X (k := 4) (ft := .array .int) (lt := .int) (tc := 0) (N' := 6) (a0 := (6, .inl (fun _ => 0))) (by decide) (wc_in (k := 3) rfl) (wc_in (k := 41) rfl) rfl rfl hM (fun _ => rfl) (by decide) rfl (by decide) (by omega) (by omega) dk_Model_27 (fun r h => lv_bipush (v := 6) X.1 X.2.1 dk_Model_28 (by decide) h) dk_Model_30 rfl (by decide +kernel) dk_Model_32 (fun q2 H locs hM => ?_)
  refine W.widen (k := 2) (n := 12) (by omega) (by omega) ?_
  refine m_arr X (k := 5) (ft := .array .int) (lt := .int) (tc := 0) (N' := 6) (a0 := (6, .inl (fun _ => 0))) (by decide) (wc_in (k := 3) rfl) (wc_in (k := 42) rfl) rfl rfl hM (fun _ => rfl) (by decide) rfl (by decide) (by omega) (by omega) dk_Model_35 (fun r h => lv_bipush (v := 6) X.1 X.2.1 dk_Model_36 (by decide) h) dk_Model_38 rfl (by decide +kernel) dk_Model_40 (fun q3 H locs hM => ?_)
  refine W.widen (k := 3) (n := 18) (by omega) (by omega) ?_
  refine m_arr X (k := 6) (ft := .array .int) (lt := .int) (tc := 0) (N' := 6) (a0 := (6, .inl (fun _ => 0))) (by decide) (wc_in (k := 3) rfl) (wc_in (k := 43) rfl) rfl rfl hM (fun _ => rfl) (by decide) rfl (by decide) (by omega) (by omega) dk_Model_43 (fun r h => lv_bipush (v := 6) X.1 X.2.1 dk_Model_44 (by decide) h) dk_Model_46 rfl (by decide +kernel) dk_Model_48 (fun q4 H locs hM => ?_)
  refine W.widen (k := 4) (n := 24) (by omega) (by omega) ?_
  refine m_arr X (k := 7) (ft := .array .int) (lt := .int) (tc := 0) (N' := 24) (a0 := (24, .inl (fun _ => 0))) (by decide) (wc_in (k := 3) rfl) (wc_in (k := 44) rfl) rfl rfl hM (fun _ => rfl) (by decide) rfl (by decide) (by omega) (by omega) dk_Model_51 (fun r h => lv_bipush (v := 24) X.1 X.2.1 dk_Model_52 (by decide) h) dk_Model_54 rfl (by decide +kernel) dk_Model_56 (fun q5 H locs hM => ?_)
  refine W.widen (k := 5) (n := 48) (by omega) (by omega) ?_
  refine m_con X (k := 8) (ty := .int) (v := 0) (by decide) (wc_in (k := 45) rfl) hM dk_Model_59 (fun r h => lv_iconst (v := 0) X.1 X.2.1 dk_Model_60 (by decide) h) rfl (by decide +kernel) rfl rfl dk_Model_61 (fun H locs hM => ?_)
  refine m_con X (k := 9) (ty := .int) (v := -1) (by decide) (wc_in (k := 46) rfl) hM dk_Model_64 (fun r h => lv_iconst (v := -1) X.1 X.2.1 dk_Model_65 (by decide) h) rfl (by decide +kernel) rfl rfl dk_Model_66 (fun H locs hM => ?_)
  refine m_con X (k := 10) (ty := .int) (v := 0) (by decide) (wc_in (k := 47) rfl) hM dk_Model_69 (fun r h => lv_iconst (v := 0) X.1 X.2.1 dk_Model_70 (by decide) h) rfl (by decide +kernel) rfl rfl dk_Model_71 (fun H locs hM => ?_)
  refine m_con X (k := 11) (ty := .int) (v := 0) (by decide) (wc_in (k := 48) rfl) hM dk_Model_74 (fun r h => lv_iconst (v := 0) X.1 X.2.1 dk_Model_75 (by decide) h) rfl (by decide +kernel) rfl rfl dk_Model_76 (fun H locs hM => ?_)
  refine m_con X (k := 12) (ty := .int) (v := 0) (by decide) (wc_in (k := 49) rfl) hM dk_Model_79 (fun r h => lv_iconst (v := 0) X.1 X.2.1 dk_Model_80 (by decide) h) rfl (by decide +kernel) rfl rfl dk_Model_81 (fun H locs hM => ?_)
  refine m_arr X (k := 13) (ft := .array .int) (lt := .int) (tc := 0) (N' := 100) (a0 := (100, .inl (fun _ => 0))) (by decide) (wc_in (k := 3) rfl) (wc_in (k := 50) rfl) rfl rfl hM (fun _ => rfl) (by decide) rfl (by decide) (by omega) (by omega) dk_Model_84 (fun r h => lv_bipush (v := 100) X.1 X.2.1 dk_Model_85 (by decide) h) dk_Model_87 rfl (by decide +kernel) dk_Model_89 (fun q6 H locs hM => ?_)
  refine W.widen (k := 6) (n := 148) (by omega) (by omega) ?_
  refine m_arr X (k := 14) (ft := .array .int) (lt := .int) (tc := 0) (N' := 6) (a0 := (6, .inl (fun _ => 0))) (by decide) (wc_in (k := 3) rfl) (wc_in (k := 51) rfl) rfl rfl hM (fun _ => rfl) (by decide) rfl (by decide) (by omega) (by omega) dk_Model_92 (fun r h => lv_bipush (v := 6) X.1 X.2.1 dk_Model_93 (by decide) h) dk_Model_95 rfl (by decide +kernel) dk_Model_97 (fun q7 H locs hM => ?_)
  refine W.widen (k := 7) (n := 154) (by omega) (by omega) ?_
  refine m_arr X (k := 15) (ft := .array .int) (lt := .int) (tc := 0) (N' := 60) (a0 := (60, .inl (fun _ => 0))) (by decide) (wc_in (k := 3) rfl) (wc_in (k := 52) rfl) rfl rfl hM (fun _ => rfl) (by decide) rfl (by decide) (by omega) (by omega) dk_Model_100 (fun r h => lv_bipush (v := 60) X.1 X.2.1 dk_Model_101 (by decide) h) dk_Model_103 rfl (by decide +kernel) dk_Model_105 (fun q8 H locs hM => ?_)
  refine W.widen (k := 8) (n := 214) (by omega) (by omega) ?_
  refine m_arr X (k := 16) (ft := .array .int) (lt := .int) (tc := 0) (N' := 60) (a0 := (60, .inl (fun _ => 0))) (by decide) (wc_in (k := 3) rfl) (wc_in (k := 53) rfl) rfl rfl hM (fun _ => rfl) (by decide) rfl (by decide) (by omega) (by omega) dk_Model_108 (fun r h => lv_bipush (v := 60) X.1 X.2.1 dk_Model_109 (by decide) h) dk_Model_111 rfl (by decide +kernel) dk_Model_113 (fun q9 H locs hM => ?_)
  refine W.widen (k := 9) (n := 274) (by omega) (by omega) ?_
  refine m_arr X (k := 17) (ft := .array .int) (lt := .int) (tc := 0) (N' := 60) (a0 := (60, .inl (fun _ => 0))) (by decide) (wc_in (k := 3) rfl) (wc_in (k := 54) rfl) rfl rfl hM (fun _ => rfl) (by decide) rfl (by decide) (by omega) (by omega) dk_Model_116 (fun r h => lv_bipush (v := 60) X.1 X.2.1 dk_Model_117 (by decide) h) dk_Model_119 rfl (by decide +kernel) dk_Model_121 (fun q10 H locs hM => ?_)
  refine W.widen (k := 10) (n := 334) (by omega) (by omega) ?_
  refine m_arr X (k := 18) (ft := .array .int) (lt := .int) (tc := 0) (N' := 60) (a0 := (60, .inl (fun _ => 0))) (by decide) (wc_in (k := 3) rfl) (wc_in (k := 55) rfl) rfl rfl hM (fun _ => rfl) (by decide) rfl (by decide) (by omega) (by omega) dk_Model_124 (fun r h => lv_bipush (v := 60) X.1 X.2.1 dk_Model_125 (by decide) h) dk_Model_127 rfl (by decide +kernel) dk_Model_129 (fun q11 H locs hM => ?_)
  refine W.widen (k := 11) (n := 394) (by omega) (by omega) ?_
  refine m_arr X (k := 19) (ft := .array .int) (lt := .int) (tc := 0) (N' := 600) (a0 := (600, .inl (fun _ => 0))) (by decide) (wc_in (k := 3) rfl) (wc_in (k := 56) rfl) rfl rfl hM (fun _ => rfl) (by decide) rfl (by decide) (by omega) (by omega) dk_Model_132 (fun r h => lv_sipush (v := 600) X.1 X.2.1 dk_Model_133 (by decide) h) dk_Model_136 rfl (by decide +kernel) dk_Model_138 (fun q12 H locs hM => ?_)
  refine W.widen (k := 12) (n := 994) (by omega) (by omega) ?_
  refine m_arr X (k := 20) (ft := .array .int) (lt := .int) (tc := 0) (N' := 101) (a0 := (101, .inl (fun _ => 0))) (by decide) (wc_in (k := 3) rfl) (wc_in (k := 57) rfl) rfl rfl hM (fun _ => rfl) (by decide) rfl (by decide) (by omega) (by omega) dk_Model_141 (fun r h => lv_bipush (v := 101) X.1 X.2.1 dk_Model_142 (by decide) h) dk_Model_144 rfl (by decide +kernel) dk_Model_146 (fun q13 H locs hM => ?_)
  refine W.widen (k := 13) (n := 1095) (by omega) (by omega) ?_
  refine m_con X (k := 21) (ty := .int) (v := 0) (by decide) (wc_in (k := 58) rfl) hM dk_Model_149 (fun r h => lv_iconst (v := 0) X.1 X.2.1 dk_Model_150 (by decide) h) rfl (by decide +kernel) rfl rfl dk_Model_151 (fun H locs hM => ?_)
  refine m_con X (k := 22) (ty := .int) (v := 0) (by decide) (wc_in (k := 59) rfl) hM dk_Model_154 (fun r h => lv_iconst (v := 0) X.1 X.2.1 dk_Model_155 (by decide) h) rfl (by decide +kernel) rfl rfl dk_Model_156 (fun H locs hM => ?_)
  refine m_con X (k := 23) (ty := .int) (v := 0) (by decide) (wc_in (k := 60) rfl) hM dk_Model_159 (fun r h => lv_iconst (v := 0) X.1 X.2.1 dk_Model_160 (by decide) h) rfl (by decide +kernel) rfl rfl dk_Model_161 (fun H locs hM => ?_)
  refine m_ar1 X (lt := .int) (tc := 0) (N' := 16) (a0 := (16, .inl (fun _ => 0))) (wc_in (k := 3) rfl) rfl rfl hM (fun _ => rfl) (by decide) rfl (by decide) (by omega) (by omega) dk_Model_164 (fun r h => lv_bipush (v := 16) X.1 X.2.1 dk_Model_165 (by decide) h) dk_Model_167 (fun q14 H locs hM => ?_)
  refine m_ias X (n := 16) (f := fun _ => 0) (i := 0) (x := 108) hM rfl (by decide) dk_Model_169 (fun r h => lv_iconst (v := 0) X.1 X.2.1 dk_Model_170 (by decide) h) (fun r h => lv_bipush (v := 108) X.1 X.2.1 dk_Model_171 (by decide) h) dk_Model_173 (fun H locs hM => ?_)
  refine m_ias X (n := 16) (f := va_up (fun _ => 0) (0 : Int32).toNatClampNeg 108) (i := 1) (x := 97) hM rfl (by decide) dk_Model_174 (fun r h => lv_iconst (v := 1) X.1 X.2.1 dk_Model_175 (by decide) h) (fun r h => lv_bipush (v := 97) X.1 X.2.1 dk_Model_176 (by decide) h) dk_Model_178 (fun H locs hM => ?_)
  refine m_ias X (n := 16) (f := va_up (va_up (fun _ => 0) (0 : Int32).toNatClampNeg 108) (1 : Int32).toNatClampNeg 97) (i := 2) (x := 103) hM rfl (by decide) dk_Model_179 (fun r h => lv_iconst (v := 2) X.1 X.2.1 dk_Model_180 (by decide) h) (fun r h => lv_bipush (v := 103) X.1 X.2.1 dk_Model_181 (by decide) h) dk_Model_183 (fun H locs hM => ?_)
  refine m_ias X (n := 16) (f := va_up (va_up (va_up (fun _ => 0) (0 : Int32).toNatClampNeg 108) (1 : Int32).toNatClampNeg 97) (2 : Int32).toNatClampNeg 103) (i := 3) (x := 104) hM rfl (by decide) dk_Model_184 (fun r h => lv_iconst (v := 3) X.1 X.2.1 dk_Model_185 (by decide) h) (fun r h => lv_bipush (v := 104) X.1 X.2.1 dk_Model_186 (by decide) h) dk_Model_188 (fun H locs hM => ?_)
  refine m_ias X (n := 16) (f := va_up (va_up (va_up (va_up (fun _ => 0) (0 : Int32).toNatClampNeg 108) (1 : Int32).toNatClampNeg 97) (2 : Int32).toNatClampNeg 103) (3 : Int32).toNatClampNeg 104) (i := 4) (x := 97) hM rfl (by decide) dk_Model_189 (fun r h => lv_iconst (v := 4) X.1 X.2.1 dk_Model_190 (by decide) h) (fun r h => lv_bipush (v := 97) X.1 X.2.1 dk_Model_191 (by decide) h) dk_Model_193 (fun H locs hM => ?_)
  refine m_ias X (n := 16) (f := va_up (va_up (va_up (va_up (va_up (fun _ => 0) (0 : Int32).toNatClampNeg 108) (1 : Int32).toNatClampNeg 97) (2 : Int32).toNatClampNeg 103) (3 : Int32).toNatClampNeg 104) (4 : Int32).toNatClampNeg 97) (i := 5) (x := 115) hM rfl (by decide) dk_Model_194 (fun r h => lv_iconst (v := 5) X.1 X.2.1 dk_Model_195 (by decide) h) (fun r h => lv_bipush (v := 115) X.1 X.2.1 dk_Model_196 (by decide) h) dk_Model_198 (fun H locs hM => ?_)
  refine m_ias X (n := 16) (f := va_up (va_up (va_up (va_up (va_up (va_up (fun _ => 0) (0 : Int32).toNatClampNeg 108) (1 : Int32).toNatClampNeg 97) (2 : Int32).toNatClampNeg 103) (3 : Int32).toNatClampNeg 104) (4 : Int32).toNatClampNeg 97) (5 : Int32).toNatClampNeg 115) (i := 6) (x := 116) hM rfl (by decide) dk_Model_199 (fun r h => lv_bipush (v := 6) X.1 X.2.1 dk_Model_200 (by decide) h) (fun r h => lv_bipush (v := 116) X.1 X.2.1 dk_Model_202 (by decide) h) dk_Model_204 (fun H locs hM => ?_)
  refine m_ias X (n := 16) (f := va_up (va_up (va_up (va_up (va_up (va_up (va_up (fun _ => 0) (0 : Int32).toNatClampNeg 108) (1 : Int32).toNatClampNeg 97) (2 : Int32).toNatClampNeg 103) (3 : Int32).toNatClampNeg 104) (4 : Int32).toNatClampNeg 97) (5 : Int32).toNatClampNeg 115) (6 : Int32).toNatClampNeg 116) (i := 7) (x := 101) hM rfl (by decide) dk_Model_205 (fun r h => lv_bipush (v := 7) X.1 X.2.1 dk_Model_206 (by decide) h) (fun r h => lv_bipush (v := 101) X.1 X.2.1 dk_Model_208 (by decide) h) dk_Model_210 (fun H locs hM => ?_)
  refine m_ias X (n := 16) (f := va_up (va_up (va_up (va_up (va_up (va_up (va_up (va_up (fun _ => 0) (0 : Int32).toNatClampNeg 108) (1 : Int32).toNatClampNeg 97) (2 : Int32).toNatClampNeg 103) (3 : Int32).toNatClampNeg 104) (4 : Int32).toNatClampNeg 97) (5 : Int32).toNatClampNeg 115) (6 : Int32).toNatClampNeg 116) (7 : Int32).toNatClampNeg 101) (i := 8) (x := 102) hM rfl (by decide) dk_Model_211 (fun r h => lv_bipush (v := 8) X.1 X.2.1 dk_Model_212 (by decide) h) (fun r h => lv_bipush (v := 102) X.1 X.2.1 dk_Model_214 (by decide) h) dk_Model_216 (fun H locs hM => ?_)
  refine m_ias X (n := 16) (f := va_up (va_up (va_up (va_up (va_up (va_up (va_up (va_up (va_up (fun _ => 0) (0 : Int32).toNatClampNeg 108) (1 : Int32).toNatClampNeg 97) (2 : Int32).toNatClampNeg 103) (3 : Int32).toNatClampNeg 104) (4 : Int32).toNatClampNeg 97) (5 : Int32).toNatClampNeg 115) (6 : Int32).toNatClampNeg 116) (7 : Int32).toNatClampNeg 101) (8 : Int32).toNatClampNeg 102) (i := 9) (x := 97) hM rfl (by decide) dk_Model_217 (fun r h => lv_bipush (v := 9) X.1 X.2.1 dk_Model_218 (by decide) h) (fun r h => lv_bipush (v := 97) X.1 X.2.1 dk_Model_220 (by decide) h) dk_Model_222 (fun H locs hM => ?_)
  refine m_ias X (n := 16) (f := va_up (va_up (va_up (va_up (va_up (va_up (va_up (va_up (va_up (va_up (fun _ => 0) (0 : Int32).toNatClampNeg 108) (1 : Int32).toNatClampNeg 97) (2 : Int32).toNatClampNeg 103) (3 : Int32).toNatClampNeg 104) (4 : Int32).toNatClampNeg 97) (5 : Int32).toNatClampNeg 115) (6 : Int32).toNatClampNeg 116) (7 : Int32).toNatClampNeg 101) (8 : Int32).toNatClampNeg 102) (9 : Int32).toNatClampNeg 97) (i := 10) (x := 115) hM rfl (by decide) dk_Model_223 (fun r h => lv_bipush (v := 10) X.1 X.2.1 dk_Model_224 (by decide) h) (fun r h => lv_bipush (v := 115) X.1 X.2.1 dk_Model_226 (by decide) h) dk_Model_228 (fun H locs hM => ?_)
  refine m_ias X (n := 16) (f := va_up (va_up (va_up (va_up (va_up (va_up (va_up (va_up (va_up (va_up (va_up (fun _ => 0) (0 : Int32).toNatClampNeg 108) (1 : Int32).toNatClampNeg 97) (2 : Int32).toNatClampNeg 103) (3 : Int32).toNatClampNeg 104) (4 : Int32).toNatClampNeg 97) (5 : Int32).toNatClampNeg 115) (6 : Int32).toNatClampNeg 116) (7 : Int32).toNatClampNeg 101) (8 : Int32).toNatClampNeg 102) (9 : Int32).toNatClampNeg 97) (10 : Int32).toNatClampNeg 115) (i := 11) (x := 116) hM rfl (by decide) dk_Model_229 (fun r h => lv_bipush (v := 11) X.1 X.2.1 dk_Model_230 (by decide) h) (fun r h => lv_bipush (v := 116) X.1 X.2.1 dk_Model_232 (by decide) h) dk_Model_234 (fun H locs hM => ?_)
  refine m_ias X (n := 16) (f := va_up (va_up (va_up (va_up (va_up (va_up (va_up (va_up (va_up (va_up (va_up (va_up (fun _ => 0) (0 : Int32).toNatClampNeg 108) (1 : Int32).toNatClampNeg 97) (2 : Int32).toNatClampNeg 103) (3 : Int32).toNatClampNeg 104) (4 : Int32).toNatClampNeg 97) (5 : Int32).toNatClampNeg 115) (6 : Int32).toNatClampNeg 116) (7 : Int32).toNatClampNeg 101) (8 : Int32).toNatClampNeg 102) (9 : Int32).toNatClampNeg 97) (10 : Int32).toNatClampNeg 115) (11 : Int32).toNatClampNeg 116) (i := 12) (x := 108) hM rfl (by decide) dk_Model_235 (fun r h => lv_bipush (v := 12) X.1 X.2.1 dk_Model_236 (by decide) h) (fun r h => lv_bipush (v := 108) X.1 X.2.1 dk_Model_238 (by decide) h) dk_Model_240 (fun H locs hM => ?_)
  refine m_ias X (n := 16) (f := va_up (va_up (va_up (va_up (va_up (va_up (va_up (va_up (va_up (va_up (va_up (va_up (va_up (fun _ => 0) (0 : Int32).toNatClampNeg 108) (1 : Int32).toNatClampNeg 97) (2 : Int32).toNatClampNeg 103) (3 : Int32).toNatClampNeg 104) (4 : Int32).toNatClampNeg 97) (5 : Int32).toNatClampNeg 115) (6 : Int32).toNatClampNeg 116) (7 : Int32).toNatClampNeg 101) (8 : Int32).toNatClampNeg 102) (9 : Int32).toNatClampNeg 97) (10 : Int32).toNatClampNeg 115) (11 : Int32).toNatClampNeg 116) (12 : Int32).toNatClampNeg 108) (i := 13) (x := 111) hM rfl (by decide) dk_Model_241 (fun r h => lv_bipush (v := 13) X.1 X.2.1 dk_Model_242 (by decide) h) (fun r h => lv_bipush (v := 111) X.1 X.2.1 dk_Model_244 (by decide) h) dk_Model_246 (fun H locs hM => ?_)
  refine m_ias X (n := 16) (f := va_up (va_up (va_up (va_up (va_up (va_up (va_up (va_up (va_up (va_up (va_up (va_up (va_up (va_up (fun _ => 0) (0 : Int32).toNatClampNeg 108) (1 : Int32).toNatClampNeg 97) (2 : Int32).toNatClampNeg 103) (3 : Int32).toNatClampNeg 104) (4 : Int32).toNatClampNeg 97) (5 : Int32).toNatClampNeg 115) (6 : Int32).toNatClampNeg 116) (7 : Int32).toNatClampNeg 101) (8 : Int32).toNatClampNeg 102) (9 : Int32).toNatClampNeg 97) (10 : Int32).toNatClampNeg 115) (11 : Int32).toNatClampNeg 116) (12 : Int32).toNatClampNeg 108) (13 : Int32).toNatClampNeg 111) (i := 14) (x := 117) hM rfl (by decide) dk_Model_247 (fun r h => lv_bipush (v := 14) X.1 X.2.1 dk_Model_248 (by decide) h) (fun r h => lv_bipush (v := 117) X.1 X.2.1 dk_Model_250 (by decide) h) dk_Model_252 (fun H locs hM => ?_)
  refine m_ias X (n := 16) (f := va_up (va_up (va_up (va_up (va_up (va_up (va_up (va_up (va_up (va_up (va_up (va_up (va_up (va_up (va_up (fun _ => 0) (0 : Int32).toNatClampNeg 108) (1 : Int32).toNatClampNeg 97) (2 : Int32).toNatClampNeg 103) (3 : Int32).toNatClampNeg 104) (4 : Int32).toNatClampNeg 97) (5 : Int32).toNatClampNeg 115) (6 : Int32).toNatClampNeg 116) (7 : Int32).toNatClampNeg 101) (8 : Int32).toNatClampNeg 102) (9 : Int32).toNatClampNeg 97) (10 : Int32).toNatClampNeg 115) (11 : Int32).toNatClampNeg 116) (12 : Int32).toNatClampNeg 108) (13 : Int32).toNatClampNeg 111) (14 : Int32).toNatClampNeg 117) (i := 15) (x := 100) hM rfl (by decide) dk_Model_253 (fun r h => lv_bipush (v := 15) X.1 X.2.1 dk_Model_254 (by decide) h) (fun r h => lv_bipush (v := 100) X.1 X.2.1 dk_Model_256 (by decide) h) dk_Model_258 (fun H locs hM => ?_)
  refine m_ptq X (k := 24) (ft := .array .int) (q := q14) (by decide) (wc_in (k := 61) rfl) hM rfl (by decide +kernel) rfl rfl dk_Model_259 (fun H locs hM => ?_)
  refine W.widen (k := 14) (n := 1111) (by omega) (by omega) ?_
  refine m_con X (k := 25) (ty := .int) (v := -1) (by decide) (wc_in (k := 62) rfl) hM dk_Model_262 (fun r h => lv_iconst (v := -1) X.1 X.2.1 dk_Model_263 (by decide) h) rfl (by decide +kernel) rfl rfl dk_Model_264 (fun H locs hM => ?_)
  refine m_arr X (k := 26) (ft := .array .boolean) (lt := .boolean) (tc := 1) (N' := 100) (a0 := (100, .inl (fun _ => 0))) (by decide) (wc_in (k := 8) rfl) (wc_in (k := 63) rfl) rfl rfl hM (fun _ => rfl) (by decide) rfl (by decide) (by omega) (by omega) dk_Model_267 (fun r h => lv_bipush (v := 100) X.1 X.2.1 dk_Model_268 (by decide) h) dk_Model_270 rfl (by decide +kernel) dk_Model_272 (fun q15 H locs hM => ?_)
  refine W.widen (k := 15) (n := 1211) (by omega) (by omega) ?_
  refine m_con X (k := 27) (ty := .boolean) (v := 0) (by decide) (wc_in (k := 64) rfl) hM dk_Model_275 (fun r h => lv_iconst (v := 0) X.1 X.2.1 dk_Model_276 (by decide) h) rfl (by decide +kernel) rfl rfl dk_Model_277 (fun H locs hM => ?_)
  refine m_arr X (k := 28) (ft := .array .int) (lt := .int) (tc := 0) (N' := 6) (a0 := (6, .inl (fun _ => 0))) (by decide) (wc_in (k := 3) rfl) (wc_in (k := 65) rfl) rfl rfl hM (fun _ => rfl) (by decide) rfl (by decide) (by omega) (by omega) dk_Model_280 (fun r h => lv_bipush (v := 6) X.1 X.2.1 dk_Model_281 (by decide) h) dk_Model_283 rfl (by decide +kernel) dk_Model_285 (fun q16 H locs hM => ?_)
  refine W.widen (k := 16) (n := 1217) (by omega) (by omega) ?_
  refine m_arr X (k := 29) (ft := .array .int) (lt := .int) (tc := 0) (N' := 6) (a0 := (6, .inl (fun _ => 0))) (by decide) (wc_in (k := 3) rfl) (wc_in (k := 66) rfl) rfl rfl hM (fun _ => rfl) (by decide) rfl (by decide) (by omega) (by omega) dk_Model_288 (fun r h => lv_bipush (v := 6) X.1 X.2.1 dk_Model_289 (by decide) h) dk_Model_291 rfl (by decide +kernel) dk_Model_293 (fun q17 H locs hM => ?_)
  refine W.widen (k := 17) (n := 1223) (by omega) (by omega) ?_
  refine m_arr X (k := 30) (ft := .array .boolean) (lt := .boolean) (tc := 1) (N' := 6) (a0 := (6, .inl (fun _ => 0))) (by decide) (wc_in (k := 8) rfl) (wc_in (k := 67) rfl) rfl rfl hM (fun _ => rfl) (by decide) rfl (by decide) (by omega) (by omega) dk_Model_296 (fun r h => lv_bipush (v := 6) X.1 X.2.1 dk_Model_297 (by decide) h) dk_Model_299 rfl (by decide +kernel) dk_Model_301 (fun q18 H locs hM => ?_)
  refine W.widen (k := 18) (n := 1229) (by omega) (by omega) ?_
  refine m_con X (k := 31) (ty := .int) (v := 0) (by decide) (wc_in (k := 68) rfl) hM dk_Model_304 (fun r h => lv_iconst (v := 0) X.1 X.2.1 dk_Model_305 (by decide) h) rfl (by decide +kernel) rfl rfl dk_Model_306 (fun H locs hM => ?_)
  refine m_con X (k := 32) (ty := .int) (v := 0) (by decide) (wc_in (k := 69) rfl) hM dk_Model_309 (fun r h => lv_iconst (v := 0) X.1 X.2.1 dk_Model_310 (by decide) h) rfl (by decide +kernel) rfl rfl dk_Model_311 (fun H locs hM => ?_)
  refine m_arr X (k := 33) (ft := .array .int) (lt := .int) (tc := 0) (N' := 6) (a0 := (6, .inl (fun _ => 0))) (by decide) (wc_in (k := 3) rfl) (wc_in (k := 70) rfl) rfl rfl hM (fun _ => rfl) (by decide) rfl (by decide) (by omega) (by omega) dk_Model_314 (fun r h => lv_bipush (v := 6) X.1 X.2.1 dk_Model_315 (by decide) h) dk_Model_317 rfl (by decide +kernel) dk_Model_319 (fun q19 H locs hM => ?_)
  refine W.widen (k := 19) (n := 1235) (by omega) (by omega) ?_
  refine m_arr X (k := 34) (ft := .array .int) (lt := .int) (tc := 0) (N' := 6) (a0 := (6, .inl (fun _ => 0))) (by decide) (wc_in (k := 3) rfl) (wc_in (k := 71) rfl) rfl rfl hM (fun _ => rfl) (by decide) rfl (by decide) (by omega) (by omega) dk_Model_322 (fun r h => lv_bipush (v := 6) X.1 X.2.1 dk_Model_323 (by decide) h) dk_Model_325 rfl (by decide +kernel) dk_Model_327 (fun q20 H locs hM => ?_)
  refine W.widen (k := 20) (n := 1241) (by omega) (by omega) ?_
  refine m_con X (k := 35) (ty := .int) (v := 0) (by decide) (wc_in (k := 72) rfl) hM dk_Model_330 (fun r h => lv_iconst (v := 0) X.1 X.2.1 dk_Model_331 (by decide) h) rfl (by decide +kernel) rfl rfl dk_Model_332 (fun H locs hM => ?_)
  refine m_arr X (k := 36) (ft := .array .int) (lt := .int) (tc := 0) (N' := 5) (a0 := (5, .inl (fun _ => 0))) (by decide) (wc_in (k := 3) rfl) (wc_in (k := 73) rfl) rfl rfl hM (fun _ => rfl) (by decide) rfl (by decide) (by omega) (by omega) dk_Model_335 (fun r h => lv_iconst (v := 5) X.1 X.2.1 dk_Model_336 (by decide) h) dk_Model_337 rfl (by decide +kernel) dk_Model_339 (fun q21 H locs hM => ?_)
  refine W.widen (k := 21) (n := 1246) (by omega) (by omega) ?_
  refine m_arr X (k := 37) (ft := .array .int) (lt := .int) (tc := 0) (N' := 5) (a0 := (5, .inl (fun _ => 0))) (by decide) (wc_in (k := 3) rfl) (wc_in (k := 74) rfl) rfl rfl hM (fun _ => rfl) (by decide) rfl (by decide) (by omega) (by omega) dk_Model_342 (fun r h => lv_iconst (v := 5) X.1 X.2.1 dk_Model_343 (by decide) h) dk_Model_344 rfl (by decide +kernel) dk_Model_346 (fun q22 H locs hM => ?_)
  refine W.widen (k := 22) (n := 1251) (by omega) (by omega) ?_
  refine m_arr X (k := 38) (ft := .array .int) (lt := .int) (tc := 0) (N' := 5) (a0 := (5, .inl (fun _ => 0))) (by decide) (wc_in (k := 3) rfl) (wc_in (k := 75) rfl) rfl rfl hM (fun _ => rfl) (by decide) rfl (by decide) (by omega) (by omega) dk_Model_349 (fun r h => lv_iconst (v := 5) X.1 X.2.1 dk_Model_350 (by decide) h) dk_Model_351 rfl (by decide +kernel) dk_Model_353 (fun q23 H locs hM => ?_)
  refine W.widen (k := 23) (n := 1256) (by omega) (by omega) ?_
  refine m_con X (k := 39) (ty := .int) (v := 0) (by decide) (wc_in (k := 76) rfl) hM dk_Model_356 (fun r h => lv_iconst (v := 0) X.1 X.2.1 dk_Model_357 (by decide) h) rfl (by decide +kernel) rfl rfl dk_Model_358 (fun H locs hM => ?_)
  refine m_con X (k := 40) (ty := .int) (v := 0) (by decide) (wc_in (k := 77) rfl) hM dk_Model_361 (fun r h => lv_iconst (v := 0) X.1 X.2.1 dk_Model_362 (by decide) h) rfl (by decide +kernel) rfl rfl dk_Model_363 (fun H locs hM => ?_)
  refine m_arr X (k := 41) (ft := .array .int) (lt := .int) (tc := 0) (N' := 10) (a0 := (10, .inl (fun _ => 0))) (by decide) (wc_in (k := 3) rfl) (wc_in (k := 78) rfl) rfl rfl hM (fun _ => rfl) (by decide) rfl (by decide) (by omega) (by omega) dk_Model_366 (fun r h => lv_bipush (v := 10) X.1 X.2.1 dk_Model_367 (by decide) h) dk_Model_369 rfl (by decide +kernel) dk_Model_371 (fun q24 H locs hM => ?_)
  refine W.widen (k := 24) (n := 1266) (by omega) (by omega) ?_
  refine m_arr X (k := 42) (ft := .array .int) (lt := .int) (tc := 0) (N' := 10) (a0 := (10, .inl (fun _ => 0))) (by decide) (wc_in (k := 3) rfl) (wc_in (k := 79) rfl) rfl rfl hM (fun _ => rfl) (by decide) rfl (by decide) (by omega) (by omega) dk_Model_374 (fun r h => lv_bipush (v := 10) X.1 X.2.1 dk_Model_375 (by decide) h) dk_Model_377 rfl (by decide +kernel) dk_Model_379 (fun q25 H locs hM => ?_)
  refine W.widen (k := 25) (n := 1276) (by omega) (by omega) ?_
  refine m_arr X (k := 43) (ft := .array .int) (lt := .int) (tc := 0) (N' := 8) (a0 := (8, .inl (fun _ => 0))) (by decide) (wc_in (k := 3) rfl) (wc_in (k := 80) rfl) rfl rfl hM (fun _ => rfl) (by decide) rfl (by decide) (by omega) (by omega) dk_Model_382 (fun r h => lv_bipush (v := 8) X.1 X.2.1 dk_Model_383 (by decide) h) dk_Model_385 rfl (by decide +kernel) dk_Model_387 (fun q26 H locs hM => ?_)
  refine W.widen (k := 26) (n := 1284) (by omega) (by omega) ?_
  refine m_arr X (k := 44) (ft := .array .int) (lt := .int) (tc := 0) (N' := 8) (a0 := (8, .inl (fun _ => 0))) (by decide) (wc_in (k := 3) rfl) (wc_in (k := 81) rfl) rfl rfl hM (fun _ => rfl) (by decide) rfl (by decide) (by omega) (by omega) dk_Model_390 (fun r h => lv_bipush (v := 8) X.1 X.2.1 dk_Model_391 (by decide) h) dk_Model_393 rfl (by decide +kernel) dk_Model_395 (fun q27 H locs hM => ?_)
  refine W.widen (k := 27) (n := 1292) (by omega) (by omega) ?_
  refine m_con X (k := 45) (ty := .boolean) (v := 0) (by decide) (wc_in (k := 82) rfl) hM dk_Model_398 (fun r h => lv_iconst (v := 0) X.1 X.2.1 dk_Model_399 (by decide) h) rfl (by decide +kernel) rfl rfl dk_Model_400 (fun H locs hM => ?_)
  refine m_con X (k := 46) (ty := .int) (v := -1) (by decide) (wc_in (k := 83) rfl) hM dk_Model_403 (fun r h => lv_iconst (v := -1) X.1 X.2.1 dk_Model_404 (by decide) h) rfl (by decide +kernel) rfl rfl dk_Model_405 (fun H locs hM => ?_)
  refine m_con X (k := 47) (ty := .int) (v := 0) (by decide) (wc_in (k := 84) rfl) hM dk_Model_408 (fun r h => lv_iconst (v := 0) X.1 X.2.1 dk_Model_409 (by decide) h) rfl (by decide +kernel) rfl rfl dk_Model_410 (fun H locs hM => ?_)
  refine m_con X (k := 48) (ty := .int) (v := 0) (by decide) (wc_in (k := 85) rfl) hM dk_Model_413 (fun r h => lv_iconst (v := 0) X.1 X.2.1 dk_Model_414 (by decide) h) rfl (by decide +kernel) rfl rfl dk_Model_415 (fun H locs hM => ?_)
  refine m_con X (k := 49) (ty := .int) (v := 0) (by decide) (wc_in (k := 86) rfl) hM dk_Model_418 (fun r h => lv_iconst (v := 0) X.1 X.2.1 dk_Model_419 (by decide) h) rfl (by decide +kernel) rfl rfl dk_Model_420 (fun H locs hM => ?_)
  refine m_con X (k := 50) (ty := .int) (v := 0) (by decide) (wc_in (k := 87) rfl) hM dk_Model_423 (fun r h => lv_iconst (v := 0) X.1 X.2.1 dk_Model_424 (by decide) h) rfl (by decide +kernel) rfl rfl dk_Model_425 (fun H locs hM => ?_)
  refine m_con X (k := 51) (ty := .int) (v := 0) (by decide) (wc_in (k := 88) rfl) hM dk_Model_428 (fun r h => lv_iconst (v := 0) X.1 X.2.1 dk_Model_429 (by decide) h) rfl (by decide +kernel) rfl rfl dk_Model_430 (fun H locs hM => ?_)
  refine m_con X (k := 52) (ty := .int) (v := 0) (by decide) (wc_in (k := 89) rfl) hM dk_Model_433 (fun r h => lv_iconst (v := 0) X.1 X.2.1 dk_Model_434 (by decide) h) rfl (by decide +kernel) rfl rfl dk_Model_435 (fun H locs hM => ?_)
  refine m_arr X (k := 53) (ft := .array .int) (lt := .int) (tc := 0) (N' := 6) (a0 := (6, .inl (fun _ => 0))) (by decide) (wc_in (k := 3) rfl) (wc_in (k := 90) rfl) rfl rfl hM (fun _ => rfl) (by decide) rfl (by decide) (by omega) (by omega) dk_Model_438 (fun r h => lv_bipush (v := 6) X.1 X.2.1 dk_Model_439 (by decide) h) dk_Model_441 rfl (by decide +kernel) dk_Model_443 (fun q28 H locs hM => ?_)
  refine W.widen (k := 28) (n := 1298) (by omega) (by omega) ?_
  refine m_arr X (k := 54) (ft := .array .int) (lt := .int) (tc := 0) (N' := 6) (a0 := (6, .inl (fun _ => 0))) (by decide) (wc_in (k := 3) rfl) (wc_in (k := 91) rfl) rfl rfl hM (fun _ => rfl) (by decide) rfl (by decide) (by omega) (by omega) dk_Model_446 (fun r h => lv_bipush (v := 6) X.1 X.2.1 dk_Model_447 (by decide) h) dk_Model_449 rfl (by decide +kernel) dk_Model_451 (fun q29 H locs hM => ?_)
  refine W.widen (k := 29) (n := 1304) (by omega) (by omega) ?_
  refine m_arr X (k := 55) (ft := .array .int) (lt := .int) (tc := 0) (N' := 6) (a0 := (6, .inl (fun _ => 0))) (by decide) (wc_in (k := 3) rfl) (wc_in (k := 92) rfl) rfl rfl hM (fun _ => rfl) (by decide) rfl (by decide) (by omega) (by omega) dk_Model_454 (fun r h => lv_bipush (v := 6) X.1 X.2.1 dk_Model_455 (by decide) h) dk_Model_457 rfl (by decide +kernel) dk_Model_459 (fun q30 H locs hM => ?_)
  refine W.widen (k := 30) (n := 1310) (by omega) (by omega) ?_
  refine m_arr X (k := 56) (ft := .array .int) (lt := .int) (tc := 0) (N' := 6) (a0 := (6, .inl (fun _ => 0))) (by decide) (wc_in (k := 3) rfl) (wc_in (k := 93) rfl) rfl rfl hM (fun _ => rfl) (by decide) rfl (by decide) (by omega) (by omega) dk_Model_462 (fun r h => lv_bipush (v := 6) X.1 X.2.1 dk_Model_463 (by decide) h) dk_Model_465 rfl (by decide +kernel) dk_Model_467 (fun q31 H locs hM => ?_)
  refine W.widen (k := 31) (n := 1316) (by omega) (by omega) ?_
  refine m_arr X (k := 57) (ft := .array .int) (lt := .int) (tc := 0) (N' := 24) (a0 := (24, .inl (fun _ => 0))) (by decide) (wc_in (k := 3) rfl) (wc_in (k := 94) rfl) rfl rfl hM (fun _ => rfl) (by decide) rfl (by decide) (by omega) (by omega) dk_Model_470 (fun r h => lv_bipush (v := 24) X.1 X.2.1 dk_Model_471 (by decide) h) dk_Model_473 rfl (by decide +kernel) dk_Model_475 (fun q32 H locs hM => ?_)
  refine W.widen (k := 32) (n := 1340) (by omega) (by omega) ?_
  refine m_arr X (k := 58) (ft := .array .int) (lt := .int) (tc := 0) (N' := 5) (a0 := (5, .inl (fun _ => 0))) (by decide) (wc_in (k := 3) rfl) (wc_in (k := 95) rfl) rfl rfl hM (fun _ => rfl) (by decide) rfl (by decide) (by omega) (by omega) dk_Model_478 (fun r h => lv_iconst (v := 5) X.1 X.2.1 dk_Model_479 (by decide) h) dk_Model_480 rfl (by decide +kernel) dk_Model_482 (fun q33 H locs hM => ?_)
  refine W.widen (k := 33) (n := 1345) (by omega) (by omega) ?_
  refine m_arr X (k := 59) (ft := .array .int) (lt := .int) (tc := 0) (N' := 5) (a0 := (5, .inl (fun _ => 0))) (by decide) (wc_in (k := 3) rfl) (wc_in (k := 96) rfl) rfl rfl hM (fun _ => rfl) (by decide) rfl (by decide) (by omega) (by omega) dk_Model_485 (fun r h => lv_iconst (v := 5) X.1 X.2.1 dk_Model_486 (by decide) h) dk_Model_487 rfl (by decide +kernel) dk_Model_489 (fun q34 H locs hM => ?_)
  refine W.widen (k := 34) (n := 1350) (by omega) (by omega) ?_
  refine m_arr X (k := 60) (ft := .array .int) (lt := .int) (tc := 0) (N' := 5) (a0 := (5, .inl (fun _ => 0))) (by decide) (wc_in (k := 3) rfl) (wc_in (k := 97) rfl) rfl rfl hM (fun _ => rfl) (by decide) rfl (by decide) (by omega) (by omega) dk_Model_492 (fun r h => lv_iconst (v := 5) X.1 X.2.1 dk_Model_493 (by decide) h) dk_Model_494 rfl (by decide +kernel) dk_Model_496 (fun q35 H locs hM => ?_)
  refine W.widen (k := 35) (n := 1355) (by omega) (by omega) ?_
  refine m_arr X (k := 61) (ft := .array .int) (lt := .int) (tc := 0) (N' := 10) (a0 := (10, .inl (fun _ => 0))) (by decide) (wc_in (k := 3) rfl) (wc_in (k := 98) rfl) rfl rfl hM (fun _ => rfl) (by decide) rfl (by decide) (by omega) (by omega) dk_Model_499 (fun r h => lv_bipush (v := 10) X.1 X.2.1 dk_Model_500 (by decide) h) dk_Model_502 rfl (by decide +kernel) dk_Model_504 (fun q36 H locs hM => ?_)
  refine W.widen (k := 36) (n := 1365) (by omega) (by omega) ?_
  refine m_arr X (k := 62) (ft := .array .int) (lt := .int) (tc := 0) (N' := 10) (a0 := (10, .inl (fun _ => 0))) (by decide) (wc_in (k := 3) rfl) (wc_in (k := 99) rfl) rfl rfl hM (fun _ => rfl) (by decide) rfl (by decide) (by omega) (by omega) dk_Model_507 (fun r h => lv_bipush (v := 10) X.1 X.2.1 dk_Model_508 (by decide) h) dk_Model_510 rfl (by decide +kernel) dk_Model_512 (fun q37 H locs hM => ?_)
  refine W.widen (k := 37) (n := 1375) (by omega) (by omega) ?_
  refine m_arr X (k := 63) (ft := .array .int) (lt := .int) (tc := 0) (N' := 8) (a0 := (8, .inl (fun _ => 0))) (by decide) (wc_in (k := 3) rfl) (wc_in (k := 100) rfl) rfl rfl hM (fun _ => rfl) (by decide) rfl (by decide) (by omega) (by omega) dk_Model_515 (fun r h => lv_bipush (v := 8) X.1 X.2.1 dk_Model_516 (by decide) h) dk_Model_518 rfl (by decide +kernel) dk_Model_520 (fun q38 H locs hM => ?_)
  refine W.widen (k := 38) (n := 1383) (by omega) (by omega) ?_
  refine m_arr X (k := 64) (ft := .array .int) (lt := .int) (tc := 0) (N' := 8) (a0 := (8, .inl (fun _ => 0))) (by decide) (wc_in (k := 3) rfl) (wc_in (k := 101) rfl) rfl rfl hM (fun _ => rfl) (by decide) rfl (by decide) (by omega) (by omega) dk_Model_523 (fun r h => lv_bipush (v := 8) X.1 X.2.1 dk_Model_524 (by decide) h) dk_Model_526 rfl (by decide +kernel) dk_Model_528 (fun q39 H locs hM => ?_)
  refine W.widen (k := 39) (n := 1391) (by omega) (by omega) ?_
  refine m_con X (k := 65) (ty := .int) (v := 0) (by decide) (wc_in (k := 102) rfl) hM dk_Model_531 (fun r h => lv_iconst (v := 0) X.1 X.2.1 dk_Model_532 (by decide) h) rfl (by decide +kernel) rfl rfl dk_Model_533 (fun H locs hM => ?_)
  refine m_arr X (k := 66) (ft := .array .int) (lt := .int) (tc := 0) (N' := 20) (a0 := (20, .inl (fun _ => 0))) (by decide) (wc_in (k := 3) rfl) (wc_in (k := 103) rfl) rfl rfl hM (fun _ => rfl) (by decide) rfl (by decide) (by omega) (by omega) dk_Model_536 (fun r h => lv_bipush (v := 20) X.1 X.2.1 dk_Model_537 (by decide) h) dk_Model_539 rfl (by decide +kernel) dk_Model_541 (fun q40 H locs hM => ?_)
  refine W.widen (k := 40) (n := 1411) (by omega) (by omega) ?_
  refine m_ar1 X (lt := .int) (tc := 0) (N' := 6) (a0 := (6, .inl (fun _ => 0))) (wc_in (k := 3) rfl) rfl rfl hM (fun _ => rfl) (by decide) rfl (by decide) (by omega) (by omega) dk_Model_544 (fun r h => lv_bipush (v := 6) X.1 X.2.1 dk_Model_545 (by decide) h) dk_Model_547 (fun q41 H locs hM => ?_)
  refine m_ias X (n := 6) (f := fun _ => 0) (i := 0) (x := (-1)) hM rfl (by decide) dk_Model_549 (fun r h => lv_iconst (v := 0) X.1 X.2.1 dk_Model_550 (by decide) h) (fun r h => lv_iconst (v := -1) X.1 X.2.1 dk_Model_551 (by decide) h) dk_Model_552 (fun H locs hM => ?_)
  refine m_ias X (n := 6) (f := va_up (fun _ => 0) (0 : Int32).toNatClampNeg (-1)) (i := 1) (x := (-1)) hM rfl (by decide) dk_Model_553 (fun r h => lv_iconst (v := 1) X.1 X.2.1 dk_Model_554 (by decide) h) (fun r h => lv_iconst (v := -1) X.1 X.2.1 dk_Model_555 (by decide) h) dk_Model_556 (fun H locs hM => ?_)
  refine m_ias X (n := 6) (f := va_up (va_up (fun _ => 0) (0 : Int32).toNatClampNeg (-1)) (1 : Int32).toNatClampNeg (-1)) (i := 2) (x := (-1)) hM rfl (by decide) dk_Model_557 (fun r h => lv_iconst (v := 2) X.1 X.2.1 dk_Model_558 (by decide) h) (fun r h => lv_iconst (v := -1) X.1 X.2.1 dk_Model_559 (by decide) h) dk_Model_560 (fun H locs hM => ?_)
  refine m_ias X (n := 6) (f := va_up (va_up (va_up (fun _ => 0) (0 : Int32).toNatClampNeg (-1)) (1 : Int32).toNatClampNeg (-1)) (2 : Int32).toNatClampNeg (-1)) (i := 3) (x := (-1)) hM rfl (by decide) dk_Model_561 (fun r h => lv_iconst (v := 3) X.1 X.2.1 dk_Model_562 (by decide) h) (fun r h => lv_iconst (v := -1) X.1 X.2.1 dk_Model_563 (by decide) h) dk_Model_564 (fun H locs hM => ?_)
  refine m_ias X (n := 6) (f := va_up (va_up (va_up (va_up (fun _ => 0) (0 : Int32).toNatClampNeg (-1)) (1 : Int32).toNatClampNeg (-1)) (2 : Int32).toNatClampNeg (-1)) (3 : Int32).toNatClampNeg (-1)) (i := 4) (x := (-1)) hM rfl (by decide) dk_Model_565 (fun r h => lv_iconst (v := 4) X.1 X.2.1 dk_Model_566 (by decide) h) (fun r h => lv_iconst (v := -1) X.1 X.2.1 dk_Model_567 (by decide) h) dk_Model_568 (fun H locs hM => ?_)
  refine m_ias X (n := 6) (f := va_up (va_up (va_up (va_up (va_up (fun _ => 0) (0 : Int32).toNatClampNeg (-1)) (1 : Int32).toNatClampNeg (-1)) (2 : Int32).toNatClampNeg (-1)) (3 : Int32).toNatClampNeg (-1)) (4 : Int32).toNatClampNeg (-1)) (i := 5) (x := (-1)) hM rfl (by decide) dk_Model_569 (fun r h => lv_iconst (v := 5) X.1 X.2.1 dk_Model_570 (by decide) h) (fun r h => lv_iconst (v := -1) X.1 X.2.1 dk_Model_571 (by decide) h) dk_Model_572 (fun H locs hM => ?_)
  refine m_ptq X (k := 67) (ft := .array .int) (q := q41) (by decide) (wc_in (k := 104) rfl) hM rfl (by decide +kernel) rfl rfl dk_Model_573 (fun H locs hM => ?_)
  refine W.widen (k := 41) (n := 1417) (by omega) (by omega) ?_
  refine m_arr X (k := 68) (ft := .array .int) (lt := .int) (tc := 0) (N' := 6) (a0 := (6, .inl (fun _ => 0))) (by decide) (wc_in (k := 3) rfl) (wc_in (k := 105) rfl) rfl rfl hM (fun _ => rfl) (by decide) rfl (by decide) (by omega) (by omega) dk_Model_576 (fun r h => lv_bipush (v := 6) X.1 X.2.1 dk_Model_577 (by decide) h) dk_Model_579 rfl (by decide +kernel) dk_Model_581 (fun q42 H locs hM => ?_)
  refine W.widen (k := 42) (n := 1423) (by omega) (by omega) ?_
  refine m_arr X (k := 69) (ft := .array .long) (lt := .long) (tc := 3) (N' := 360) (a0 := (360, .inr (.inl (fun _ => 0)))) (by decide) (wc_in (k := 35) rfl) (wc_in (k := 106) rfl) rfl rfl hM (fun _ => rfl) (by decide) rfl (by decide) (by omega) (by omega) dk_Model_584 (fun r h => lv_sipush (v := 360) X.1 X.2.1 dk_Model_585 (by decide) h) dk_Model_588 rfl (by decide +kernel) dk_Model_590 (fun q43 H locs hM => ?_)
  refine W.widen (k := 43) (n := 1783) (by omega) (by omega) ?_
  refine m_arr X (k := 70) (ft := .array .long) (lt := .long) (tc := 3) (N' := 60) (a0 := (60, .inr (.inl (fun _ => 0)))) (by decide) (wc_in (k := 35) rfl) (wc_in (k := 107) rfl) rfl rfl hM (fun _ => rfl) (by decide) rfl (by decide) (by omega) (by omega) dk_Model_593 (fun r h => lv_bipush (v := 60) X.1 X.2.1 dk_Model_594 (by decide) h) dk_Model_596 rfl (by decide +kernel) dk_Model_598 (fun q44 H locs hM => ?_)
  refine W.widen (k := 44) (n := 1843) (by omega) (by omega) ?_
  refine W.widen (k := 44) (n := 1843) (by omega) (by omega) ?_
  exact W.vret hx hb hr (fun t ht hW => ⟨⟨(fun k => if k = 1 then q1 else if k = 2 then q2 else if k = 3 then q3 else if k = 4 then q4 else if k = 5 then q5 else if k = 6 then q6 else if k = 7 then q7 else if k = 8 then q8 else if k = 9 then q9 else if k = 10 then q10 else if k = 11 then q11 else if k = 12 then q12 else if k = 13 then q13 else if k = 14 then q14 else if k = 15 then q15 else if k = 16 then q16 else if k = 17 then q17 else if k = 18 then q18 else if k = 19 then q19 else if k = 20 then q20 else if k = 21 then q21 else if k = 22 then q22 else if k = 23 then q23 else if k = 24 then q24 else if k = 25 then q25 else if k = 26 then q26 else if k = 27 then q27 else if k = 28 then q28 else if k = 29 then q29 else if k = 30 then q30 else if k = 31 then q31 else if k = 32 then q32 else if k = 33 then q33 else if k = 34 then q34 else if k = 35 then q35 else if k = 36 then q36 else if k = 37 then q37 else if k = 38 then q38 else if k = 39 then q39 else if k = 40 then q40 else if k = 41 then q41 else if k = 42 then q42 else if k = 43 then q43 else if k = 44 then q44 else 0), rfl, trivial, by rw [ht]; exact hM.1, va_K.moved hW.alike hK, hM.2.1⟩, hM.2.2.1.F ht⟩) hM.2.2.1.2.2 dk_Model_601
