/-! Bits of the waiting answers (rows begun from the kit's families of bits). -/
theorem fb_andL (a b : Nat) : lN a &&& lN b = lN (a &&& b) := by
  apply Int64.toBitVec_inj.1
  show BitVec.ofNat 64 a &&& BitVec.ofNat 64 b = BitVec.ofNat 64 (a &&& b)
  apply BitVec.eq_of_getLsbD_eq
  intro i hi
  simp [hi]
theorem fb_orL (a b : Nat) : lN a ||| lN b = lN (a ||| b) := by
  apply Int64.toBitVec_inj.1
  show BitVec.ofNat 64 a ||| BitVec.ofNat 64 b = BitVec.ofNat 64 (a ||| b)
  apply BitVec.eq_of_getLsbD_eq
  intro i hi
  simp [hi]
theorem fb_xorL (a b : Nat) : lN a ^^^ lN b = lN (a ^^^ b) := by
  apply Int64.toBitVec_inj.1
  show BitVec.ofNat 64 a ^^^ BitVec.ofNat 64 b = BitVec.ofNat 64 (a ^^^ b)
  apply BitVec.eq_of_getLsbD_eq
  intro i hi
  simp [hi]
theorem wb_shl1 (n : Nat) : lN n <<< ((nI 1).toInt64 &&& 63) = lN (n * 2) := by
  rw [show ((nI 1).toInt64 &&& 63) = lN 1 by decide +kernel]
  apply Int64.toBitVec_inj.1
  rw [Int64.toBitVec_shiftLeft, show (lN n).toBitVec = BitVec.ofNat 64 n from rfl, show (lN (n * 2)).toBitVec = BitVec.ofNat 64 (n * 2) from rfl, show ((lN 1).toBitVec.smod 64) = 1#64 by decide +kernel]
  apply BitVec.eq_of_toNat_eq
  rw [BitVec.shiftLeft_eq', BitVec.toNat_shiftLeft, BitVec.toNat_ofNat, BitVec.toNat_ofNat, show 1 % 2 ^ 64 = 1 from rfl, BitVec.toNat_ofNat, Nat.shiftLeft_eq]
  omega
theorem lN_ti {n : Nat} (h : n < 2 ^ 63) : (lN n).toInt = (n : Int) := lg_ofNat_toInt h
theorem pf_shr1 {a : Nat} (h : a < 2 ^ 62) : lN a >>> ((nI 1).toInt64 &&& 63) = lN (a / 2) := by
  have hD : ((((nI 1).toInt64 &&& 63)).toBitVec.smod 64).toNat = 1 := by decide +kernel
  apply Int64.toInt_inj.mp
  have e : (lN a >>> ((nI 1).toInt64 &&& 63)).toInt = (lN a).toInt >>> 1 := by
    rw [← hD]
    exact BitVec.toInt_sshiftRight ..
  rw [e, Int.shiftRight_eq_div_pow, lN_ti (by omega), lN_ti (by omega)]
  omega
theorem of_lN (n : Nat) : Int64.ofInt (n : Int) = lN n := rfl
theorem nat_and_keep {y z : Nat} (h : y < 2 ^ 63) : y &&& (z ||| (2 ^ 63 - 1)) = y := by
  apply Nat.eq_of_testBit_eq
  intro i
  rw [Nat.testBit_and, Nat.testBit_or, Nat.testBit_two_pow_sub_one]
  by_cases hi : i < 63
  · simp [hi]
  · rw [Nat.testBit_lt_two_pow (Nat.lt_of_lt_of_le h (Nat.pow_le_pow_right (by omega) (by omega)))]; rfl
theorem bx_not {w : Int} (h0 : 0 ≤ w) (h : w < 2 ^ 60) : l_xor w 1 = if w % 2 = 1 then w - 1 else w + 1 := by
  obtain ⟨n, rfl⟩ : ∃ n : Nat, w = (n : Int) := ⟨w.toNat, by omega⟩
  unfold l_xor
  rw [of_lN, show Int64.ofInt 1 = lN 1 from rfl, fb_xorL]
  have h1 : (n ^^^ 1) / 2 = n / 2 := by rw [Nat.xor_div_two]; simp
  have h2 : (n ^^^ 1) % 2 = 1 ↔ ¬ (n % 2 = 1) := by rw [Nat.xor_mod_two_eq_one]; omega
  have h3 : n ^^^ 1 < 2 ^ 61 := by omega
  rw [lN_ti (by omega)]
  by_cases z : n % 2 = 1
  · rw [if_pos (by omega)]
    have : ¬ (n ^^^ 1) % 2 = 1 := fun y => (h2.mp y) z
    omega
  · rw [if_neg (by omega)]
    have := h2.mpr z
    omega
theorem bx_or {w : Int} (h0 : 0 ≤ w) (h : w < 2 ^ 60) : l_or (l_shr w 1) (l_and w 1) = w / 2 + (if w % 2 = 1 ∧ w / 2 % 2 = 0 then 1 else 0) := by
  obtain ⟨n, rfl⟩ : ∃ n : Nat, w = (n : Int) := ⟨w.toNat, by omega⟩
  have e1 : l_shr (n : Int) 1 = ((n / 2 : Nat) : Int) := by
    unfold l_shr
    rw [of_lN, show Int32.ofInt 1 = nI 1 from rfl, pf_shr1 (by omega), lN_ti (by omega)]
  have e2 : l_and (n : Int) 1 = ((n % 2 : Nat) : Int) := by
    unfold l_and
    rw [of_lN, show Int64.ofInt 1 = lN 1 from rfl, fb_andL, Nat.and_one_is_mod, lN_ti (by omega)]
  rw [e1, e2]
  unfold l_or
  rw [of_lN, of_lN, fb_orL]
  have h1 : (n / 2 ||| n % 2) / 2 = n / 2 / 2 := by rw [Nat.or_div_two, show n % 2 / 2 = 0 by omega]; simp
  have h2 : (n / 2 ||| n % 2) % 2 = 1 ↔ n / 2 % 2 = 1 ∨ n % 2 % 2 = 1 := Nat.or_mod_two_eq_one
  rw [lN_ti (by omega)]
  by_cases z : (n / 2 ||| n % 2) % 2 = 1
  · have := h2.mp z
    split <;> omega
  · have : ¬ (n / 2 % 2 = 1 ∨ n % 2 % 2 = 1) := fun y => z (h2.mpr y)
    split <;> omega
theorem bx_and {w : Int} (h0 : 0 ≤ w) (h : w < 2 ^ 60) : l_and (l_shr w 1) (l_or w (-2)) = w / 2 - (if w % 2 = 0 ∧ w / 2 % 2 = 1 then 1 else 0) := by
  obtain ⟨n, rfl⟩ : ∃ n : Nat, w = (n : Int) := ⟨w.toNat, by omega⟩
  have e1 : l_shr (n : Int) 1 = ((n / 2 : Nat) : Int) := by
    unfold l_shr
    rw [of_lN, show Int32.ofInt 1 = nI 1 from rfl, pf_shr1 (by omega), lN_ti (by omega)]
  have e2 : Int64.ofInt (l_or (n : Int) (-2)) = lN (n ||| (2 ^ 64 - 2)) := by
    unfold l_or
    rw [n_ofL, of_lN, show Int64.ofInt (-2) = lN (2 ^ 64 - 2) by decide +kernel, fb_orL]
  rw [e1]
  show (Int64.ofInt ((n / 2 : Nat) : Int) &&& Int64.ofInt (l_or (n : Int) (-2))).toInt = _
  rw [e2, of_lN, fb_andL]
  have h1 : (n / 2 &&& (n ||| (2 ^ 64 - 2))) / 2 = n / 2 / 2 := by
    rw [Nat.and_div_two, Nat.or_div_two, show (2 ^ 64 - 2) / 2 = 2 ^ 63 - 1 by decide, nat_and_keep (by omega)]
  have h2 : (n / 2 &&& (n ||| (2 ^ 64 - 2))) % 2 = 1 ↔ n / 2 % 2 = 1 ∧ (n ||| (2 ^ 64 - 2)) % 2 = 1 := Nat.and_mod_two_eq_one
  have h3 : (n ||| (2 ^ 64 - 2)) % 2 = 1 ↔ n % 2 = 1 ∨ (2 ^ 64 - 2) % 2 = 1 := Nat.or_mod_two_eq_one
  rw [lN_ti (by omega)]
  by_cases z : (n / 2 &&& (n ||| (2 ^ 64 - 2))) % 2 = 1
  · have q := h2.mp z
    have q2 := h3.mp q.2
    split <;> omega
  · have q : ¬ (n / 2 % 2 = 1 ∧ (n % 2 = 1 ∨ (2 ^ 64 - 2) % 2 = 1)) := fun y => z (h2.mpr ⟨y.1, h3.mpr y.2⟩)
    split <;> omega
theorem bx_push {w b : Int} (h0 : 0 ≤ w) (h : w < 2 ^ 60) (hb : b = 0 ∨ b = 1) : l_or (l_shl w 1) b = 2 * w + b := by
  obtain ⟨n, rfl⟩ : ∃ n : Nat, w = (n : Int) := ⟨w.toNat, by omega⟩
  obtain ⟨c, rfl⟩ : ∃ c : Nat, b = (c : Int) := ⟨b.toNat, by omega⟩
  have e1 : l_shl (n : Int) 1 = ((n * 2 : Nat) : Int) := by
    unfold l_shl
    rw [of_lN, show Int32.ofInt 1 = nI 1 from rfl, wb_shl1, lN_ti (by omega)]
  rw [e1]
  unfold l_or
  rw [of_lN, of_lN, fb_orL]
  have h1 : (n * 2 ||| c) / 2 = n := by rw [Nat.or_div_two, show c / 2 = 0 by omega]; simp
  have h2 : (n * 2 ||| c) % 2 = 1 ↔ n * 2 % 2 = 1 ∨ c % 2 = 1 := Nat.or_mod_two_eq_one
  rw [lN_ti (by omega)]
  by_cases z : (n * 2 ||| c) % 2 = 1
  · have := h2.mp z
    omega
  · have : ¬ (n * 2 % 2 = 1 ∨ c % 2 = 1) := fun y => z (h2.mpr y)
    omega
theorem bx_low {w : Int} (h0 : 0 ≤ w) (h : w < 2 ^ 60) : l_and w 1 = w % 2 := by
  obtain ⟨n, rfl⟩ : ∃ n : Nat, w = (n : Int) := ⟨w.toNat, by omega⟩
  unfold l_and
  rw [of_lN, show Int64.ofInt 1 = lN 1 from rfl, fb_andL, Nat.and_one_is_mod, lN_ti (by omega)]
  omega
set_option maxRecDepth 100000 in
theorem tk_tab : ∀ n : Nat, n < 3072 → b_and (n : Int) 127 = ((n % 128 : Nat) : Int) ∧ b_shr (n : Int) 9 = ((n / 512 : Nat) : Int) ∧ b_and (b_shr (n : Int) 7) 3 = ((n / 128 % 4 : Nat) : Int) := by decide +kernel
theorem tk_at {t : Int} (h0 : 0 ≤ t) (h : t < 3072) : b_and t 127 = t % 128 ∧ b_shr t 9 = t / 512 ∧ b_and (b_shr t 7) 3 = t / 128 % 4 := by
  obtain ⟨n, rfl⟩ : ∃ n : Nat, t = (n : Int) := ⟨t.toNat, by omega⟩
  obtain ⟨a, b, c⟩ := tk_tab n (by omega)
  rw [a, b, c]; omega
