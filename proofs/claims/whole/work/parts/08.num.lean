/-! Numbers: ours (Int) and the machine's. -/
theorem w32_id {z : Int} (h : r32 z) : w32 z = z := by unfold r32 at h; unfold w32; omega
theorem w32_r (z : Int) : r32 (w32 z) := by unfold r32 w32; omega
theorem w32_w (z : Int) : w32 (w32 z) = w32 z := w32_id (w32_r z)
theorem n_bm (z : Int) : z.bmod (2 ^ 32) = w32 z := by
  rw [show ((2 : Nat) ^ 32) = 4294967296 from rfl, Int.bmod_def]; unfold w32; split <;> omega
theorem n_bm8 (z : Int) : z.bmod (2 ^ 8) = w8 z := by
  rw [show ((2 : Nat) ^ 8) = 256 from rfl, Int.bmod_def]; unfold w8; split <;> omega
theorem n_bm16 (z : Int) : z.bmod (2 ^ 16) = w16 z := by
  rw [show ((2 : Nat) ^ 16) = 65536 from rfl, Int.bmod_def]; unfold w16; split <;> omega
theorem n_inj {x y : Int32} (h : x.toInt = y.toInt) : x = y := Int32.toInt_inj.mp h
theorem n_injL {x y : Int64} (h : x.toInt = y.toInt) : x = y := Int64.toInt_inj.mp h
theorem n_ti (z : Int) : (Int32.ofInt z).toInt = w32 z := by rw [Int32.toInt_ofInt]; exact n_bm z
theorem n_tr {z : Int} (h : r32 z) : (Int32.ofInt z).toInt = z := by rw [n_ti, w32_id h]
theorem n_of (x : Int32) : Int32.ofInt x.toInt = x := Int32.ofInt_toInt x
theorem n_rng (x : Int32) : r32 x.toInt := ⟨Int32.le_toInt x, Int32.toInt_lt x⟩
theorem n_rngL (x : Int64) : r64 x.toInt := ⟨Int64.le_toInt x, Int64.toInt_lt x⟩
theorem n_ofL (x : Int64) : Int64.ofInt x.toInt = x := Int64.ofInt_toInt x
theorem n_trL {z : Int} (h : r64 z) : (Int64.ofInt z).toInt = z := by
  unfold r64 at h
  rw [Int64.toInt_ofInt, show Int64.size = 18446744073709551616 from rfl, Int.bmod_def]; split <;> omega
theorem n_add (x y : Int) : Int32.ofInt x + Int32.ofInt y = Int32.ofInt (w32 (x + y)) := by
  apply n_inj; rw [Int32.toInt_add, n_ti, n_ti, n_ti, n_bm]; unfold w32; omega
theorem n_sub (x y : Int) : Int32.ofInt x - Int32.ofInt y = Int32.ofInt (w32 (x - y)) := by
  apply n_inj; rw [Int32.toInt_sub, n_ti, n_ti, n_ti, n_bm]; unfold w32; omega
theorem n_neg (x : Int) : - Int32.ofInt x = Int32.ofInt (w32 (-x)) := by
  apply n_inj; rw [Int32.toInt_neg, n_ti, n_ti, n_bm]; unfold w32; omega
theorem n_mul {x y : Int} (hx : r32 x) (hy : r32 y) : Int32.ofInt x * Int32.ofInt y = Int32.ofInt (w32 (x * y)) := by
  apply n_inj; rw [Int32.toInt_mul, n_ti, n_ti, n_ti, n_bm, w32_id hx, w32_id hy, w32_w]
theorem n_div {x y : Int} (hx : r32 x) (hy : r32 y) : Int32.ofInt x / Int32.ofInt y = Int32.ofInt (i_div x y) := by
  apply n_inj; unfold i_div; rw [Int32.toInt_div, n_ti, n_ti, n_ti, n_bm, w32_id hx, w32_id hy, w32_w]
theorem n_rem {x y : Int} (hx : r32 x) (hy : r32 y) : Int32.ofInt x - Int32.ofInt x / Int32.ofInt y * Int32.ofInt y = Int32.ofInt (i_rem x y) := by
  rw [n_div hx hy, n_mul (show r32 (i_div x y) from w32_r _) hy, n_sub]; rfl
theorem n_lt {x y : Int} (hx : r32 x) (hy : r32 y) : Int32.ofInt x < Int32.ofInt y ↔ x < y := by
  rw [Int32.lt_iff_toInt_lt, n_tr hx, n_tr hy]
theorem n_le {x y : Int} (hx : r32 x) (hy : r32 y) : Int32.ofInt x ≤ Int32.ofInt y ↔ x ≤ y := by
  rw [Int32.le_iff_toInt_le, n_tr hx, n_tr hy]
theorem n_eq {x y : Int} (hx : r32 x) (hy : r32 y) : Int32.ofInt x = Int32.ofInt y ↔ x = y := by
  rw [← Int32.toInt_inj, n_tr hx, n_tr hy]
theorem r32_0 : r32 0 := by unfold r32; omega
theorem n_0 : (0 : Int32) = Int32.ofInt 0 := rfl
theorem n_eqL {x y : Int} (hx : r64 x) (hy : r64 y) : Int64.ofInt x = Int64.ofInt y ↔ x = y := by
  rw [← Int64.toInt_inj, n_trL hx, n_trL hy]
theorem n_ltL {x y : Int} (hx : r64 x) (hy : r64 y) : Int64.ofInt x < Int64.ofInt y ↔ x < y := by
  rw [Int64.lt_iff_toInt_lt, n_trL hx, n_trL hy]
theorem n_cmp {x y : Int} (hx : r64 x) (hy : r64 y) : lg_cmp (Int64.ofInt x) (Int64.ofInt y) = Int32.ofInt (l_cmp x y) := by
  unfold lg_cmp l_cmp
  have e1 : (Int64.ofInt x > Int64.ofInt y) ↔ y < x := n_ltL hy hx
  have e2 := n_eqL hx hy
  by_cases h1 : y < x
  · rw [if_pos (e1.mpr h1), if_neg (by omega), if_neg (by omega)]; rfl
  · rw [if_neg (fun z => h1 (e1.mp z))]
    by_cases h2 : x = y
    · rw [if_pos (e2.mpr h2), if_neg (by omega), if_pos h2]; rfl
    · rw [if_neg (fun z => h2 (e2.mp z)), if_pos (by omega)]; rfl
theorem n_i2l {x : Int} (hx : r32 x) : (Int32.ofInt x).toInt64 = Int64.ofInt x := by
  apply n_injL; rw [Int32.toInt_toInt64, n_tr hx, n_trL]; unfold r32 at hx; unfold r64; omega
theorem n_l2i {x : Int} (hx : r64 x) : (Int64.ofInt x).toInt32 = Int32.ofInt (w32 x) := by
  apply n_inj; rw [Int64.toInt_toInt32, n_trL hx, n_ti, n_bm, w32_w]
theorem n_i2b {x : Int} (hx : r32 x) : (Int32.ofInt x).toInt8.toInt32 = Int32.ofInt (w8 x) := by
  apply n_inj; rw [Int8.toInt_toInt32, Int32.toInt_toInt8, n_tr hx, n_bm8, n_tr]; unfold r32 w8; omega
theorem n_i2s {x : Int} (hx : r32 x) : (Int32.ofInt x).toInt16.toInt32 = Int32.ofInt (w16 x) := by
  apply n_inj; rw [Int16.toInt_toInt32, Int32.toInt_toInt16, n_tr hx, n_bm16, n_tr]; unfold r32 w16; omega
theorem n_i2c (x : Int) : ((Int32.ofInt x).toUInt32 % 65536).toInt32 = Int32.ofInt (x % 65536) := by
  rw [pk_char]
  have e : (Int32.ofInt x).toBitVec.toNat = (x % 4294967296).toNat := by
    show (BitVec.ofInt 32 x).toNat = _
    rw [BitVec.toNat_ofInt]; rfl
  rw [e]
  show Int32.ofNat _ = _
  apply n_inj
  rw [Int32.toInt_ofNat', n_ti]
  show Int.bmod _ _ = _
  rw [show Int32.size = 2 ^ 32 from rfl, n_bm]
  congr 1
  omega
theorem n_imm8 {v : Int} (h1 : -128 ≤ v) (h2 : v ≤ 127) : (Int8.ofInt v).toInt32 = Int32.ofInt v := by
  apply n_inj; rw [Int8.toInt_toInt32, Int8.toInt_ofInt, show Int8.size = 2 ^ 8 from rfl, n_bm8, n_tr (show r32 v by unfold r32; omega)]; unfold w8; omega
theorem n_imm16 {v : Int} (h1 : -32768 ≤ v) (h2 : v ≤ 32767) : (Int16.ofInt v).toInt32 = Int32.ofInt v := by
  apply n_inj; rw [Int16.toInt_toInt32, Int16.toInt_ofInt, show Int16.size = 2 ^ 16 from rfl, n_bm16, n_tr (show r32 v by unfold r32; omega)]; unfold w16; omega
theorem n_in {i : Int} (hi : r32 i) {n : Int} (h : 0 ≤ i ∧ i < n) : vp_in (Int32.ofInt i) n.toNat := by
  rw [vp_in_iff, n_tr hi]; omega
theorem n_ix {i : Int} (hi : r32 i) : (Int32.ofInt i).toNatClampNeg = i.toNat := by
  show (Int32.ofInt i).toInt.toNat = _
  rw [n_tr hi]
theorem n_max {x y : Int} (hx : r32 x) (hy : r32 y) : (if Int32.ofInt x < Int32.ofInt y then Int32.ofInt y else Int32.ofInt x) = Int32.ofInt (i_max x y) := by
  unfold i_max; by_cases h : x < y
  · rw [if_pos h, if_pos ((n_lt hx hy).mpr h)]
  · rw [if_neg h, if_neg (fun z => h ((n_lt hx hy).mp z))]
theorem n_min {x y : Int} (hx : r32 x) (hy : r32 y) : (if Int32.ofInt y < Int32.ofInt x then Int32.ofInt y else Int32.ofInt x) = Int32.ofInt (i_min x y) := by
  unfold i_min; by_cases h : y < x
  · rw [if_pos h, if_pos ((n_lt hy hx).mpr h)]
  · rw [if_neg h, if_neg (fun z => h ((n_lt hy hx).mp z))]
theorem n_abs {x : Int} (hx : r32 x) : (if 0 ≤ Int32.ofInt x then Int32.ofInt x else 0 - Int32.ofInt x) = Int32.ofInt (i_abs x) := by
  unfold i_abs; by_cases h : 0 ≤ x
  · rw [if_pos h, if_pos (show (0 : Int32) ≤ Int32.ofInt x from (n_le r32_0 hx).mpr h)]
  · rw [if_neg h, if_neg (show ¬ (0 : Int32) ≤ Int32.ofInt x from fun z => h ((n_le r32_0 hx).mp z))]
    exact n_sub 0 x
theorem r_max {x y : Int} (hx : r32 x) (hy : r32 y) : r32 (i_max x y) := by unfold i_max; split <;> assumption
theorem r_min {x y : Int} (hx : r32 x) (hy : r32 y) : r32 (i_min x y) := by unfold i_min; split <;> assumption
theorem r_abs {x : Int} (hx : r32 x) : r32 (i_abs x) := by unfold i_abs; split; · assumption
                                                           · exact w32_r _
theorem r_cmp (x y : Int) : r32 (l_cmp x y) := by unfold l_cmp r32; split <;> (try split) <;> omega
