/-! odds, mean on both sides. -/
def oddC (T : TDt) (V : Vw) (n k : Int) : Int := fI (fun s p => if widthV (daysV T (-1) (putA V p 1) n) = 0 then s + 1 else s) 0 k
def oddsV (T : TDt) (V : Vw) (n x : Int) : Int := if (0 ≤ n ∧ n ≤ 60) ∧ (x = 0 ∨ x = 1) ∧ 0 < vn V then lowV (oddC T V n (vn V)) (vn V) x else -9223372036854775808
def meanV (T : TDt) (V : Vw) (n x : Int) : Int := if (0 ≤ n ∧ n ≤ 60) ∧ (x = 0 ∨ x = 1) ∧ 0 < vn V then lowV (togV (daysV T (-1) V n)) (vn V) x else -9223372036854775808
theorem oddC_rng {T : TDt} {V : Vw} {n : Int} : ∀ k, 0 ≤ k → 0 ≤ oddC T V n k ∧ oddC T V n k ≤ k := by
  intro n' h0
  obtain ⟨k, rfl⟩ : ∃ k : Nat, n' = (k : Int) := ⟨n'.toNat, by omega⟩
  induction k with
  | zero => show 0 ≤ (0 : Int) ∧ (0 : Int) ≤ ((0 : Nat) : Int); omega
  | succ k ih =>
    have := ih (by omega)
    unfold oddC at this ⊢
    rw [show ((k + 1 : Nat) : Int) = (k : Int) + 1 by omega, fI_s (by omega)]
    split <;> omega
theorem dayV_n {T : TDt} {pp : Int} {V : Vw} : vn (dayV T pp V) = vn V := rfl
theorem daysV_n {T : TDt} {pp : Int} {V : Vw} : ∀ n, 0 ≤ n → vn (daysV T pp V n) = vn V := by
  intro n h0
  obtain ⟨k, rfl⟩ : ∃ k : Nat, n = (k : Int) := ⟨n.toNat, by omega⟩
  induction k with
  | zero => rfl
  | succ k ih =>
    rw [show ((k + 1 : Nat) : Int) = (k : Int) + 1 by omega, daysV_s (by omega), dayV_n]
    exact ih (by omega)
theorem tog_rng {B : Int} {V : Vw} (hV : VOk B V) : 0 ≤ togV V ∧ togV V ≤ 5994 := by
  have hn := hV.1
  have := sum_rng (n := vn V) (o := vo V) (fun i h0 h1 => vok_oOk hV i h0 (by omega)) (vn V) hn.1 (Int.le_refl _)
  unfold togV; omega
section
variable {g : aG} {d : Nat} {μ m0 : aM} {Q : aQ} {p B a b n pp w x : Int} {T : TDt} {V V' : Vw}
theorem c_P_mean (hC : CC μ V T) (hpp : μ 21 0 5 = -1) (h : ∀ μ', QFr μ μ' → Q (some (aL (meanV T V n x))) μ') : Cal g (d + 7) m_P_mean [aR 0 0, aI n, aI x] μ Q := by
  have hn := hC.2.1.1
  have hsz := hC.sz
  have h0 := h μ ⟨TFr.rf, hpp⟩
  unfold meanV at h h0
  refine T_P_mean (k1 := fun z => ?_) (k2 := fun z => ?_)
  · rw [hsz] at z
    rw [if_pos z] at h
    refine c_P_tryDays hC z.1 hpp (fun m hf h5 hv => B_P_mean_18 (k1 := ?_))
    have hVd := daysV_ok (T := T) (pp := -1) hC.2.1 n z.1.1
    have htg := tog_rng hVd
    refine Cal_le (show 1 ≤ d + 6 by omega) (c_Cr_together (d := 0) (by rw [hv]; exact hVd) (B_P_mean_26 (k1 := ?_)))
    rw [hv]
    have e2 := (hC.t hf).sz
    refine Cal_le (show 1 ≤ d + 6 by omega) (c_P_low (d := 0) (by omega) (by omega) (B_P_mean_30 (k1 := ?_)))
    rw [e2]; exact h m ⟨hf, h5⟩
  · rw [hsz] at z
    rw [if_neg z] at h0; exact h0
end
