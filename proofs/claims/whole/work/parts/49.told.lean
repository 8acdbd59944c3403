/-! of, told on both sides. -/
def ofV (T : TDt) (V : Vw) (p w : Int) : Int := if 0 ≤ p ∧ p < vn V then (if w = 0 then vk V p else if w = 1 then vv V p else if w = 2 then vu V p else if w = 3 then vo V p else if w = 4 then va V p else if w = 5 then lgV T (-1) V p else if w = 6 then cmV T (-1) V p else if w = 7 then rgV T (-1) V p else -10001) else -10001
def toldV (T : TDt) (V : Vw) (w : Int) : Int := if w = 0 then vd V else if w = 1 then fastT T else if w = 2 then loudT T else if w = 3 then bitsF (va V) else if w = 4 then worstV V else if w = 5 then widthV V else -1
theorem bitsF_t6 {f : Int → Int} : bitsF (t6 f) = bitsF f := by
  unfold bitsF
  rw [t6_in (by omega) (by omega), t6_in (by omega) (by omega), t6_in (by omega) (by omega), t6_in (by omega) (by omega), t6_in (by omega) (by omega), t6_in (by omega) (by omega)]
section
variable {g : aG} {d : Nat} {μ m0 : aM} {Q : aQ} {p B a b n pp w x : Int} {T : TDt} {V V' : Vw}
theorem c_P_told (hC : CC μ V T) (hpp : μ 21 0 5 = -1) (hz : ∀ i, vn V ≤ i → i < 6 → va V i = 0) (h : ∀ μ', QFr μ μ' → Q (some (aI (toldV T V w))) μ') : Cal g (d + 2) m_P_told [aR 0 0, aI w] μ Q := by
  have hn := hC.2.1.1
  have hsz := hC.sz
  have h0 := h μ ⟨TFr.rf, hpp⟩
  have hVk : VOk 9999 (vC μ 0) := by rw [hC.1]; exact hC.2.1
  unfold toldV at h0
  refine T_P_told (k1 := fun z => ?_) (k2 := fun z => ?_) (k3 := fun z => ?_) (k4 := fun z => ?_) (k5 := fun z => ?_) (k6 := fun z => ?_) (k7 := fun z0 z1 z2 z3 z4 z5 => ?_)
  · rw [if_pos z, ← hC.1] at h0; exact h0
  · rw [if_neg (by omega), if_pos z] at h0
    exact Cal_le (show 1 ≤ d + 1 by omega) (c_P_holder (d := 0) hC (fun t hT => B_P_told_55 (k1 := by rw [hT.2.2.1]; exact h0)))
  · rw [if_neg (by omega), if_neg (by omega), if_pos z] at h0
    exact Cal_le (show 1 ≤ d + 1 by omega) (c_P_holder (d := 0) hC (fun t hT => B_P_told_63 (k1 := by rw [hT.2.2.2]; exact h0)))
  · rw [if_neg (by omega), if_neg (by omega), if_neg (by omega), if_pos z] at h0
    refine Cal_le (show 1 ≤ d + 1 by omega) (c_Cr_awayBits (d := 0) hVk (fun i i0 i6 => ?_) (B_P_told_77 (k1 := ?_)))
    · have := hz i (by omega) i6
      rw [← hC.1, va_C (by omega) i6] at this; exact this
    · rw [← hC.1] at h0
      have e : bitsF (va (vC μ 0)) = bitsF (μ 7 0) := bitsF_t6
      rw [e] at h0; exact h0
  · rw [if_neg (by omega), if_neg (by omega), if_neg (by omega), if_neg (by omega), if_pos z] at h0
    refine Cal_le (show 1 ≤ d + 1 by omega) (c_Cr_worst (d := 0) hVk (B_P_told_88 (k1 := ?_)))
    rw [hC.1]; exact h0
  · rw [if_neg (by omega), if_neg (by omega), if_neg (by omega), if_neg (by omega), if_neg (by omega), if_pos z] at h0
    refine Cal_le (show 1 ≤ d + 1 by omega) (c_Cr_width (d := 0) hVk (B_P_told_99 (k1 := ?_)))
    rw [hC.1]; exact h0
  · rw [if_neg z0, if_neg z1, if_neg z2, if_neg z3, if_neg z4, if_neg z5] at h0; exact h0
theorem c_M_told (hC : CM μ V T) (hg : gOk (μ 31 0 2)) (h : ∀ μ', KFr μ μ' → Q (some (aI (toldV T V w))) μ') : Cal g (d + 4) m_M_told [aR 31 0, aI w] μ Q := by
  have hn := hC.2.1.1
  have hsz := hC.sz
  have h0 := h μ (KFr.rf hC.2.2.2.2)
  have hVk : VOk 9999 (vM μ) := by rw [hC.1]; exact hC.2.1
  unfold toldV at h0
  refine Cal_le (show 3 ≤ d + 4 by omega) (T_M_told (d := 0) (k1 := fun z => ?_) (k2 := fun z => ?_) (k3 := fun z => ?_) (k4 := fun z => ?_) (k5 := fun z => ?_) (k6 := fun z => ?_) (k7 := fun z0 z1 z2 z3 z4 z5 => ?_))
  · rw [if_pos z, ← hC.1] at h0; exact h0
  · rw [if_neg (by omega), if_pos z] at h0
    exact c_M_lastOf hC.2.2.2.1 hC.2.2.1 (B_M_told_51 (k1 := h0))
  · rw [if_neg (by omega), if_neg (by omega), if_pos z] at h0
    exact c_M_lastOf hC.2.2.2.1 hC.2.2.1 (B_M_told_58 (k1 := h0))
  · rw [if_neg (by omega), if_neg (by omega), if_neg (by omega), if_pos z, ← hC.1] at h0
    have e : bitsF (va (vM μ)) = μ 31 0 2 := bitsF_t6.trans (bits_at hg)
    rw [e] at h0; exact h0
  · rw [if_neg (by omega), if_neg (by omega), if_neg (by omega), if_neg (by omega), if_pos z] at h0
    refine c_M_wrong hVk (B_M_told_68 (k1 := ?_))
    rw [hC.1]; exact h0
  · rw [if_neg (by omega), if_neg (by omega), if_neg (by omega), if_neg (by omega), if_neg (by omega), if_pos z] at h0
    refine Cal_le (show 1 ≤ 2 by omega) (c_M_spread (d := 0) hVk (B_M_told_73 (k1 := ?_)))
    rw [hC.1]; exact h0
  · rw [if_neg z0, if_neg z1, if_neg z2, if_neg z3, if_neg z4, if_neg z5] at h0; exact h0
end
