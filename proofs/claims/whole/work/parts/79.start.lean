/-! The memory behind the two constructors. -/
def mu0 : aM := fun k i j => if k = 1 then (if j = 4 then -1 else 0) else if k = 9 then (if j = 0 then (if i % 3 = 0 then 5 else if i % 3 = 1 then 10 else 8) else 0) else if k = 14 then (if j = 3 then 5 else 0) else if k = 21 then (if j = 5 then -1 else 0) else if k = 29 then (if j = 0 then -1 else 0) else if k = 31 then (if j = 9 ∨ j = 25 ∨ j = 46 then -1 else 0) else if k = 45 then (if 0 ≤ j ∧ j < 16 then lets j else 0) else if k = 72 then (if 0 ≤ j ∧ j < 6 then -1 else 0) else 0
theorem z6 : t6 (fun _ => 0) = fun _ => 0 := funext fun i => by unfold t6; split <;> rfl
theorem z24 : t24 (fun _ => 0) = fun _ => 0 := funext fun i => by unfold t24; split <;> rfl
def V0 : Vw := (0, 0, fun _ => 0, fun _ => 0, fun _ => 0, fun _ => 0, fun _ => 0, fun _ => 0)
theorem v0C (a : Int) : vC mu0 a = V0 := by
  have h3 : mu0 3 a = fun _ => 0 := rfl
  have h4 : mu0 4 a = fun _ => 0 := rfl
  have h5 : mu0 5 a = fun _ => 0 := rfl
  have h6 : mu0 6 a = fun _ => 0 := rfl
  have h7 : mu0 7 a = fun _ => 0 := rfl
  have h8 : mu0 8 a = fun _ => 0 := rfl
  unfold vC
  rw [h3, h4, h5, h6, h7, h8, z6, z24]; rfl
theorem zb6 : t6 (bitF 0) = fun _ => 0 := by
  funext i
  unfold t6
  split
  · rename_i h
    obtain e | e | e | e | e | e : i = 0 ∨ i = 1 ∨ i = 2 ∨ i = 3 ∨ i = 4 ∨ i = 5 := by omega
    all_goals (subst e; decide +kernel)
  · rfl
theorem v0M : vM mu0 = V0 := by
  have h2 : mu0 31 0 2 = 0 := rfl
  have h3 : mu0 32 0 = fun _ => 0 := rfl
  have h4 : mu0 33 0 = fun _ => 0 := rfl
  have h5 : mu0 34 0 = fun _ => 0 := rfl
  have h6 : mu0 35 0 = fun _ => 0 := rfl
  have h8 : mu0 36 0 = fun _ => 0 := rfl
  unfold vM
  rw [h2, h3, h4, h5, h6, h8, zb6, z6, z24]; rfl
theorem v0I : vI mu0 = V0 := by
  have h2 : mu0 31 0 49 = 0 := rfl
  have h3 : mu0 59 0 = fun _ => 0 := rfl
  have h4 : mu0 60 0 = fun _ => 0 := rfl
  have h5 : mu0 61 0 = fun _ => 0 := rfl
  have h6 : mu0 62 0 = fun _ => 0 := rfl
  have h8 : mu0 63 0 = fun _ => 0 := rfl
  unfold vI
  rw [h2, h3, h4, h5, h6, h8, zb6, z6, z24]; rfl
theorem V0_ok : VOk 9999 V0 ∧ bey V0 := by
  refine ⟨⟨by decide, by decide, fun i _ _ => ⟨?_, ?_, ?_, ?_, Or.inl rfl, fun j _ _ => ?_⟩⟩, fun i _ _ => ⟨rfl, fun j _ _ => rfl⟩⟩
  · show (0 : Int) ≤ 0 ∧ (0 : Int) ≤ 6; omega
  · show (0 : Int) ≤ 0 ∧ (0 : Int) ≤ 9; omega
  · show (0 : Int) ≤ 0 ∧ (0 : Int) ≤ 99; omega
  · show (-999 : Int) ≤ 0 ∧ (0 : Int) ≤ 999; omega
  · show (0 : Int) ≤ 0 ∧ (0 : Int) ≤ 9; omega
theorem inv0 : Inv mu0 := by
  refine ⟨?_, ?_, ?_, ?_, rfl, ?_, ?_, ?_, ?_, ?_, ?_, ?_, ?_, ?_⟩
  · unfold PE; rw [v0C, v0M]; exact ⟨rfl, V0_ok.1, V0_ok.2, by show gOk 0; unfold gOk; omega⟩
  · unfold PK; rw [v0C, v0I]; exact ⟨rfl, V0_ok.1, V0_ok.2, by show gOk 0; unfold gOk; omega⟩
  · refine ⟨⟨by decide, by decide⟩, rfl, fun t t0 t1 => ?_, ⟨rfl, ?_, rfl, rfl⟩, rfl⟩
    · have : mu0 0 0 5 = 0 := rfl
      omega
    · exact ⟨⟨by decide, by decide⟩, fun c c0 c1 => by
        have : (TT mu0 6).1 = 0 := rfl
        omega⟩
  · exact ⟨⟨rfl, by decide, by decide⟩, rfl, by decide, by decide⟩
  · refine ⟨rfl, ⟨by decide, by decide⟩, fun i i0 i1 => ?_⟩
    have : mu0 19 0 1 = 0 := rfl
    omega
  · exact SN.e0
  · exact WK.e0
  · exact BK.e0
  · exact ⟨SN.e0, WK.e0, BK.e0⟩
  · exact ⟨⟨rfl, rfl, rfl⟩, rfl, rfl, rfl⟩
  · refine ⟨rfl, fun i i0 _ i1 => ?_⟩
    have : mu0 26 0 1 = 0 := rfl
    omega
  · intro t t0 t1
    have e1 : mu0 72 0 t = -1 := by show (if 0 ≤ t ∧ t < 6 then (-1 : Int) else 0) = -1; rw [if_pos ⟨t0, t1⟩]
    have e2 : mu0 29 t 0 = -1 := rfl
    have e3 : mu0 29 t 1 = 0 := rfl
    have e4 : mu0 73 0 t = 0 := rfl
    refine ⟨⟨by rw [e1, e2], by rw [e3, e4]⟩, by rw [e2]; omega, by rw [e3]; omega, fun _ => e3, fun i _ _ => rfl⟩
  · refine ⟨rfl, rfl, fun k k0 k1 => ?_⟩
    show (if 0 ≤ k ∧ k < 16 then lets k else 0) = lets k
    rw [if_pos ⟨k0, k1⟩]
theorem lets_rng {k : Int} : 97 ≤ lets k ∧ lets k ≤ 117 := by
  unfold lets
  repeat' split
  all_goals omega
theorem kz_tab : ∀ k : Fin 76, (karr k.val).map (·.1) = some 1 → k.val = 7 ∨ k.val = 46 ∨ k.val = 49 := by decide +kernel
theorem kz_at {k : Nat} {q : Int → Int} (h : karr k = some (1, q)) : k = 7 ∨ k = 46 ∨ k = 49 := by
  rcases Nat.lt_or_ge k 76 with hk | hk
  · exact kz_tab ⟨k, hk⟩ (by show (karr k).map (·.1) = some 1; rw [h]; rfl)
  · exfalso
    unfold karr knd at h
    rw [nthL_none KT k hk] at h
    cases h
theorem wf0 : wfM mu0 := by
  intro k a j
  have h0 : -1 ≤ mu0 k a j ∧ mu0 k a j ≤ 127 := by
    have := lets_rng (k := j)
    unfold mu0
    repeat' split
    all_goals omega
  unfold rng
  split
  · rename_i q hq
    have hk := kz_at hq
    rcases hk with e | e | e <;> subst e <;> exact Or.inl rfl
  · omega
  · unfold r64; omega
  · unfold r32; omega
