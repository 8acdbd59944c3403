/-! What the law's first instructions need. -/
set_option maxRecDepth 100000
def WC4 : List Cond := [
  .classLink "PealOfExcusesLaw" 7 "PealOfExcuses",
  .instantiable "PealOfExcuses" 11,
  .initialized "PealOfExcuses",
  .methodLink "PealOfExcusesLaw" 9 ⟨"PealOfExcuses", "<init>", "()V"⟩,
  .instanceMethod ⟨"PealOfExcuses", "<init>", "()V"⟩,
  .classLink "PealOfExcusesLaw" 10 "PealOfExcusesModel",
  .instantiable "PealOfExcusesModel" 71,
  .initialized "PealOfExcusesModel",
  .methodLink "PealOfExcusesLaw" 12 ⟨"PealOfExcusesModel", "<init>", "()V"⟩,
  .instanceMethod ⟨"PealOfExcusesModel", "<init>", "()V"⟩]
theorem g_wc4 : WC4.all (fun c => decide (c ∈ lw_tbl) && goodWord c) = true := by decide +kernel
theorem wc4_in {k : Nat} {w : Cond} (h : WC4[k]? = some w) : w ∈ TW := by
  have := List.all_eq_true.mp g_wc4 w (List.mem_of_getElem? h)
  rw [Bool.and_eq_true, decide_eq_true_eq] at this
  exact List.mem_filter.mpr this
theorem tw_P : Cond.code ⟨"PealOfExcuses", "<init>", "()V"⟩ prog_1_method_1_code 2 none ∈ TW := tw_in (k := 110) rfl (by decide +kernel)
theorem tw_M : Cond.code ⟨"PealOfExcusesModel", "<init>", "()V"⟩ prog_11_method_1_code 1 none ∈ TW := tw_in (k := 934) rfl (by decide +kernel)
theorem dk_L_0 : decode code 0 = .ok (.new 7, 3) := by decide +kernel
theorem dk_L_3 : decode code 3 = .ok (.dup, 1) := by decide +kernel
theorem dk_L_4 : decode code 4 = .ok (.invokespecial 9, 3) := by decide +kernel
theorem dk_L_7 : decode code 7 = .ok (.astore_n 1, 1) := by decide +kernel
theorem dk_L_8 : decode code 8 = .ok (.new 10, 3) := by decide +kernel
theorem dk_L_11 : decode code 11 = .ok (.dup, 1) := by decide +kernel
theorem dk_L_12 : decode code 12 = .ok (.invokespecial 12, 3) := by decide +kernel
theorem dk_L_15 : decode code 15 = .ok (.astore_n 2, 1) := by decide +kernel
theorem dk_L_16 : decode code 16 = .ok (.iconst 0, 1) := by decide +kernel
theorem dk_L_17 : decode code 17 = .ok (.istore_n 3, 1) := by decide +kernel
theorem adF_for (po mo : Nat) (u : Nat → Nat → Nat → Nat) (v : Nat → Nat) (adK adV : Nat → Nat) (t b : Nat) : adF po mo u v adK adV t b 100 0 = t ∧ (∀ j : Nat, j < 6 → adF po mo u v adK adV t b 101 j = adK j ∧ adF po mo u v adK adV t b 102 j = adV j) ∧ adF po mo u v adK adV t b 103 0 = b ∧ adF po mo u v adK adV t b 0 0 = po ∧ adF po mo u v adK adV t b 31 0 = mo :=
  ⟨rfl, fun _ _ => ⟨rfl, rfl⟩, rfl, rfl, rfl⟩
