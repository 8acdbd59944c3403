/-! What is not ours, as it stands when the law begins. -/
def tmS (i : Nat) : Term := .string "PealOfExcuses$Reader" (strK.getD i 0)
def bytS : List (List Int32) := [[108, 97, 103], [104, 97, 115, 116, 101], [102, 97, 115, 116], [108, 111, 117, 100], [112, 107, 118, 117, 111, 100], [60, 61, 62]]
def lenS : List Nat := [3, 5, 4, 4, 6, 3]
def G1 : List Cond := flatC (Jvm.Cond.and given_1 narrow_1)
def G1e : List Cond := (List.range 6).map (fun i => Cond.exactly (tmS i) "java/lang/String")
def G1c : List Cond := (List.range 6).map (fun i => Cond.eq (.field (tmS i) "java/lang/String" "coder" "B") (.int 0))
def G1a : List Cond := (List.range 6).map (fun i => Cond.arrayOf (.field (tmS i) "java/lang/String" "value" "[B") .byte)
def G1l : List Cond := (List.range 6).map (fun i => Cond.eq (.length (.field (tmS i) "java/lang/String" "value" "[B")) (.int (Int32.ofNat (lenS.getD i 0))))
def G1b : List Cond := (List.range 6).flatMap (fun i => (List.range (lenS.getD i 0)).map (fun j => Cond.eq (.elem (.field (tmS i) "java/lang/String" "value" "[B") (.int (Int32.ofNat j))) (.int ((bytS.getD i []).getD j 0))))
def G1n : List Cond := (List.range 6).flatMap (fun j => (List.range j).map (fun i => Cond.not (Cond.eq (tmS i) (tmS j))))
def G1x : List Cond := (List.range 7).map (fun j => Cond.eq (.elem (.static "PealOfExcuses" "ABOVE" "[I") (.int (Int32.ofNat j))) (.int (Int32.ofInt (gtI abvL j))))
set_option maxRecDepth 100000
theorem g_e : G1e.all (fun c => decide (c ∈ G1)) = true := by decide +kernel
theorem g_c : G1c.all (fun c => decide (c ∈ G1)) = true := by decide +kernel
theorem g_a : G1a.all (fun c => decide (c ∈ G1)) = true := by decide +kernel
theorem g_l : G1l.all (fun c => decide (c ∈ G1)) = true := by decide +kernel
theorem g_b : G1b.all (fun c => decide (c ∈ G1)) = true := by decide +kernel
theorem g_n : G1n.all (fun c => decide (c ∈ G1)) = true := by decide +kernel
theorem g_x : G1x.all (fun c => decide (c ∈ G1)) = true := by decide +kernel
theorem g_o : [Cond.eq (.static "java/lang/String" "COMPACT_STRINGS" "Z") (.int 1), Cond.isRef (.static "jdk/internal/util/Preconditions" "SIOOBE_FORMATTER" "Ljava/util/function/BiFunction;"), Cond.isRef (.static "PealOfExcuses" "ABOVE" "[I"), Cond.arrayOf (.static "PealOfExcuses" "ABOVE" "[I") .int, Cond.eq (.length (.static "PealOfExcuses" "ABOVE" "[I")) (.int 7)].all (fun c => decide (c ∈ G1)) = true := by decide +kernel
def W80 : List Cond := [.laysStatic "PealOfExcuses" "ABOVE" "[I", .initialized "PealOfExcuses", .fieldLinkNest "PealOfExcuses$Actor" 41 "PealOfExcuses" "ABOVE" "[I" "PealOfExcuses", .laysStatic "java/lang/String" "COMPACT_STRINGS" "Z", .initialized "java/lang/String", .laysStatic "jdk/internal/util/Preconditions" "SIOOBE_FORMATTER" "Ljava/util/function/BiFunction;", .initialized "jdk/internal/util/Preconditions"] ++ (List.range 6).map (fun i => Cond.stringRef "PealOfExcuses$Reader" (strK.getD i 0) (strT.getD i ""))
theorem g_w : W80.all (fun c => decide (c ∈ lw_tbl)) = true := by decide +kernel
theorem all_in {l L : List Cond} (h : l.all (fun c => decide (c ∈ L)) = true) {k : Nat} {w : Cond} (hk : l[k]? = some w) : w ∈ L := of_decide_eq_true (List.all_eq_true.mp h w (List.mem_of_getElem? hk))
theorem all_in2 {l L : List Cond} (h : l.all (fun c => decide (c ∈ L)) = true) {w : Cond} (hk : w ∈ l) : w ∈ L := of_decide_eq_true (List.all_eq_true.mp h w hk)
