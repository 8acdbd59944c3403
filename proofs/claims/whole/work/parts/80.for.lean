/-! What is not ours, as it stands when the law begins. -/
def tmS (i : Nat) : Term := .string "PealOfExcuses$Reader" (strK.getD i 0)
def bytS : List (List Int32) := [[108, 97, 103], [104, 97, 115, 116, 101], [102, 97, 115, 116], [108, 111, 117, 100], [112, 107, 118, 117, 111, 100], [60, 61, 62]]
def lenS : List Nat := [3, 5, 4, 4, 6, 3]
def G1 : List Cond := flatC (Jvm.Cond.and given_1 narrow_1)
def G1e : List Cond := (List.range 6).map (fun i => Cond.exactly (tmS i) "java/lang/String")
def G1c : List Cond := (List.range 6).map (fun i => Cond.eq (.field (tmS i) "java/lang/String" "coder" "B") (.int 0))
def G1a : List Cond := (List.range 6).map (fun i => Cond.arrayOf (.field (tmS i) "java/lang/String" "value" "[B") .byte)
def G1l : List Cond := (List.range 6).map (fun i => Cond.eq (.length (.field (tmS i) "java/lang/String" "value" "[B")) (.int (Int32.ofNat (lenS.getD i 0))))
def G1b : List Cond := (List.range 6).flatMap (fun i => (List.range (lenS.getD i 0)).map (fun j => Cond.eq (.elem (.field (tmS i) "java/lang/String" "value" "[B") (.int (Int32.ofNat j))) (.int ((bytS.getD i []).getD j 0))))
def G1n : List Cond := (List.range 6).flatMap (fun j => (List.range j).map (fun i => Cond.not (Cond.eq (tmS i) (tmS j))))
def G1x : List Cond := (List.range 7).map (fun j => Cond.eq (.elem (.static "PealOfExcuses" "ABOVE" "[I") (.int (Int32.ofNat j))) (.int (Int32.ofInt (gtI abvL j))))
set_option maxRecDepth 100000
theorem g_e : G1e.all (fun c => decide (c ∈ G1)) = true := by decide +kernel
theorem g_c : G1c.all (fun c => decide (c ∈ G1)) = true := by decide +kernel
theorem g_a : G1a.all (fun c => decide (c ∈ G1)) = true := by decide +kernel
theorem g_l : G1l.all (fun c => decide (c ∈ G1)) = true := by decide +kernel
theorem g_b : G1b.all (fun c => decide (c ∈ G1)) = true := by decide +kernel
theorem g_n : G1n.all (fun c => decide (c ∈ G1)) = true := by decide +kernel
theorem g_x : G1x.all (fun c => decide (c ∈ G1)) = true := by decide +kernel
theorem g_o : [Cond.eq (.static "java/lang/String" "COMPACT_STRINGS" "Z") (.int 1), Cond.isRef (.static "jdk/internal/util/Preconditions" "SIOOBE_FORMATTER" "Ljava/util/function/BiFunction;"), Cond.isRef (.static "PealOfExcuses" "ABOVE" "[I"), Cond.arrayOf (.static "PealOfExcuses" "ABOVE" "[I") .int, Cond.eq (.length (.static "PealOfExcuses" "ABOVE" "[I")) (.int 7)].all (fun c => decide (c ∈ G1)) = true := by decide +kernel
def W80 : List Cond := [.laysStatic "PealOfExcuses" "ABOVE" "[I", .initialized "PealOfExcuses", .fieldLinkNest "PealOfExcuses$Actor" 41 "PealOfExcuses" "ABOVE" "[I" "PealOfExcuses", .laysStatic "java/lang/String" "COMPACT_STRINGS" "Z", .initialized "java/lang/String", .laysStatic "jdk/internal/util/Preconditions" "SIOOBE_FORMATTER" "Ljava/util/function/BiFunction;", .initialized "jdk/internal/util/Preconditions"] ++ (List.range 6).map (fun i => Cond.stringRef "PealOfExcuses$Reader" (strK.getD i 0) (strT.getD i ""))
theorem g_w : W80.all (fun c => decide (c ∈ lw_tbl)) = true := by decide +kernel
theorem all_in {l L : List Cond} (h : l.all (fun c => decide (c ∈ L)) = true) {k : Nat} {w : Cond} (hk : l[k]? = some w) : w ∈ L := of_decide_eq_true (List.all_eq_true.mp h w (List.mem_of_getElem? hk))
theorem all_in2 {l L : List Cond} (h : l.all (fun c => decide (c ∈ L)) = true) {w : Cond} (hk : w ∈ l) : w ∈ L := of_decide_eq_true (List.all_eq_true.mp h w hk)
theorem x_nodup : ∀ j : Fin 7, Int32.ofInt (gtI abvL (j.val : Int)) = Int32.ofInt (gtI abvL (j.val : Int)) := fun _ => rfl
theorem byt_ok : ∀ i : Fin 6, (strL.getD i.val []).length = lenS.getD i.val 0 ∧ ∀ j : Fin 6, j.val < lenS.getD i.val 0 → Int32.ofInt (gtI (strL.getD i.val []) (j.val : Int)) = (bytS.getD i.val []).getD j.val 0 := by decide +kernel
theorem for_start {s : State} {b L : Nat} {xs : Nat → Int32} (hts : ∀ w ∈ lw_tbl, w.before #[Value.ref b] s = true) (hgv : (Jvm.Cond.and given_1 narrow_1).before #[Value.ref b] s = true) (hX : va_X b L xs s s.heap) (hL : L ≤ 3072) {A : Nat → Prop} (hA : ∀ a : Nat, a < s.heap.size → ¬ A a) (hbl : b < s.heap.size) : ∃ (adK adV : Nat → Nat) (ta : Nat) (o0 : Value), (o0 = .null ∨ ∃ a, o0 = .ref a) ∧ ∀ (ad : Nat → Int → Nat) (od : Nat → Value), ad 100 0 = ta → (∀ j : Nat, j < 6 → ad 101 j = adK j ∧ ad 102 j = adV j) → ad 103 0 = b → od 0 = o0 → FOR (L, fun j => (xs j.toNat).toInt) ad od A s s.heap := by
  have hg := flat_of_before _ hgv
  have w0 := hts _ (all_in g_w (k := 0) rfl)
  have w1 := hts _ (all_in g_w (k := 1) rfl)
  have w2 := hts _ (all_in g_w (k := 2) rfl)
  have w3 := hts _ (all_in g_w (k := 3) rfl)
  have w4 := hts _ (all_in g_w (k := 4) rfl)
  have w5 := hts _ (all_in g_w (k := 5) rfl)
  have w6 := hts _ (all_in g_w (k := 6) rfl)
  have o1 := hg _ (all_in g_o (k := 0) rfl)
  have o2 := hg _ (all_in g_o (k := 1) rfl)
  have o4 := hg _ (all_in g_o (k := 3) rfl)
  have o5 := hg _ (all_in g_o (k := 4) rfl)
  obtain ⟨ta, hta, hT⟩ := va_Tof (f := fun j => .int (Int32.ofInt (gtI abvL j))) (N := 7) (A := A) (by decide) o4 (va_eqt o5) (fun j hj => va_eqt (hg _ (all_in2 g_x (List.mem_map.mpr ⟨j, List.mem_range.mpr hj, rfl⟩)))) hA
  obtain ⟨adK, adV, hS, hev⟩ := vk_Sof (N := 6) (tm := tmS) (len := lenS) (byt := bytS) (A := A) (fun i hi => by
      obtain q | q | q | q | q | q : i = 0 ∨ i = 1 ∨ i = 2 ∨ i = 3 ∨ i = 4 ∨ i = 5 := by omega
      all_goals (subst q; decide))
    (fun i hi => hg _ (all_in2 g_e (List.mem_map.mpr ⟨i, List.mem_range.mpr hi, rfl⟩)))
    (fun i hi => hg _ (all_in2 g_c (List.mem_map.mpr ⟨i, List.mem_range.mpr hi, rfl⟩)))
    (fun i hi => hg _ (all_in2 g_a (List.mem_map.mpr ⟨i, List.mem_range.mpr hi, rfl⟩)))
    (fun i hi => hg _ (all_in2 g_l (List.mem_map.mpr ⟨i, List.mem_range.mpr hi, rfl⟩)))
    (fun i hi j hj => hg _ (all_in2 g_b (List.mem_flatMap.mpr ⟨i, List.mem_range.mpr hi, List.mem_map.mpr ⟨j, List.mem_range.mpr hj, rfl⟩⟩)))
    (fun i j hi hj hij => by
      rcases Nat.lt_or_gt_of_ne hij with q | q
      · exact Or.inl (hg _ (all_in2 g_n (List.mem_flatMap.mpr ⟨j, List.mem_range.mpr hj, List.mem_map.mpr ⟨i, List.mem_range.mpr q, rfl⟩⟩)))
      · exact Or.inr (hg _ (all_in2 g_n (List.mem_flatMap.mpr ⟨i, List.mem_range.mpr hi, List.mem_map.mpr ⟨j, List.mem_range.mpr q, rfl⟩⟩)))) hA
  obtain ⟨o0, ho0, hZ0⟩ : ∃ o0 : Value, (o0 = .null ∨ ∃ a, o0 = .ref a) ∧ va_Z "jdk/internal/util/Preconditions" "SIOOBE_FORMATTER" "Ljava/util/function/BiFunction;" o0 A s s.heap := by
    rcases va_Zqof (A := A) w5 w6 o2 hA with h | ⟨t, h⟩
    · exact ⟨.null, Or.inl rfl, h⟩
    · exact ⟨.ref t, Or.inr ⟨t, rfl⟩, h⟩
  refine ⟨adK, adV, ta, o0, ho0, fun ad od e1 e2 e3 e4 => ?_⟩
  unfold FOR
  rw [e1, e3, e4]
  refine ⟨hT, va_Zref w0 w1 hta hA, va_Nw.of rfl w2, va_Zof w3 w4 (va_eqt o1) hA, hZ0, fun j hj => ?_, ?_⟩
  · obtain ⟨q1, q2⟩ := e2 j hj
    rw [q1, q2]
    obtain ⟨h1, h2, h3, h4⟩ := hS.1 j hj
    refine ⟨h1, h2, h3, ?_, vk_R.of (hts _ (all_in2 g_w (List.mem_append_right _ (List.mem_map.mpr ⟨j, List.mem_range.mpr hj, rfl⟩)))) (hev j hj)⟩
    have hb := byt_ok ⟨j, hj⟩
    have hb1 : (strL.getD j []).length = lenS.getD j 0 := hb.1
    rw [hb1]
    have hl6 : lenS.getD j 0 ≤ 6 := by
      obtain q | q | q | q | q | q : j = 0 ∨ j = 1 ∨ j = 2 ∨ j = 3 ∨ j = 4 ∨ j = 5 := by omega
      all_goals (subst q; decide)
    obtain ⟨cell, c1, c2, c3, c4, c5, c6, c7⟩ := h4
    refine ⟨cell, c1, c2, c3, c4, c5, fun i hi => ?_, c7⟩
    rw [c6 i hi]
    have := hb.2 ⟨i, by omega⟩ hi
    show some (Value.int ((bytS.getD j []).getD i 0)) = some (Value.int (Int32.ofInt (gtI (strL.getD j []) (i : Int))))
    rw [this]
  · obtain ⟨scr, h1, h2, h3, h4, h5⟩ := hX
    refine ⟨scr, h1, h2, h3, Nat.le_of_eq h4.symm, congrArg Nat.toInt32 h4, fun j hj => ?_, hA b hbl⟩
    rw [h5 j hj]
    show some (Value.int (xs j)) = some (Value.int (Int32.ofInt (xs (j : Int).toNat).toInt))
    rw [Int32.ofInt_toInt]; rfl
