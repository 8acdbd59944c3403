section
variable {g : aG} {d : Nat} {μ m0 : aM} {Q : aQ} {p B a b n pp w x : Int} {T : TDt} {V V' : Vw}
theorem c_P_of (hC : CC μ V T) (hpp : μ 21 0 5 = -1) (h : ∀ μ', QFr μ μ' → Q (some (aI (ofV T V p w))) μ') : Cal g (d + 6) m_P_of [aR 0 0, aI p, aI w] μ Q := by
  have hn := hC.2.1.1
  have hsz := hC.sz
  have h0 := h μ ⟨TFr.rf, hpp⟩
  unfold ofV at h0 h
  refine T_P_of (k1 := fun y z => ?_) (k2 := fun y z => ?_) (k3 := fun y z => ?_) (k4 := fun y z => ?_) (k5 := fun y z z2 => ?_) (k6 := fun y z z2 => ?_) (k7 := fun y z0 z1 z2 z3 z4 => ?_) (k8 := fun y => ?_)
  all_goals rw [hsz] at y
  · rw [if_pos y, if_pos z, ← hC.1, vk_C (by omega) (by omega)] at h0; exact h0
  · rw [if_pos y, if_neg (by omega), if_pos z, ← hC.1, vv_C (by omega) (by omega)] at h0; exact h0
  · rw [if_pos y, if_neg (by omega), if_neg (by omega), if_pos z, ← hC.1, vu_C (by omega) (by omega)] at h0; exact h0
  · rw [if_pos y, if_neg (by omega), if_neg (by omega), if_neg (by omega), if_pos z, ← hC.1, vo_C (by omega) (by omega)] at h0; exact h0
  · rw [if_pos y, if_neg (by omega), if_neg (by omega), if_neg (by omega), if_neg (by omega), if_pos z, ← hC.1, va_C (by omega) (by omega), z2] at h0; exact h0
  · have ha := (hC.2.1.2.2 p y.1 (by omega)).2.2.2.2.1
    rw [← hC.1, va_C (by omega) (by omega)] at ha
    rw [if_pos y, if_neg (by omega), if_neg (by omega), if_neg (by omega), if_neg (by omega), if_pos z, ← hC.1, va_C (by omega) (by omega), show μ 7 0 p = 1 by omega] at h0; exact h0
  · refine Cal_le (Nat.le_refl _) (T_P_ofMorning (k1 := fun e => ?_) (k2 := fun e1 e2 => ?_) (k3 := fun e1 e2 => ?_))
    · rw [if_pos y, if_neg (by omega), if_neg (by omega), if_neg (by omega), if_neg (by omega), if_neg (by omega), if_neg (by omega), if_neg (by omega), if_neg (by omega)] at h0
      exact B_P_of_105 (k1 := h0)
    · refine Cal_le (show 1 ≤ d + 4 by omega) (c_P_holder (d := 0) hC (fun t hT => B_P_ofMorning_30 (k1 := ?_)))
      refine c_Mo_look hT hC.2.2.1 hC.1 hC.2.1 (by omega) hpp (fun m hf hr => ?_)
      have hT2 : TFr μ m := fun k c _ z => by rw [hf k (by simp; omega)]
      have h5 : m 21 0 5 = -1 := by rw [hf 21 (by decide)]; exact hpp
      have hm := h m ⟨hT2, h5⟩
      obtain ⟨r1, r2, r3⟩ := hr p y.1 y.2
      rw [if_pos y, if_neg (by omega), if_neg (by omega), if_neg (by omega), if_neg (by omega), if_neg (by omega)] at hm
      refine B_P_ofMorning_33 (k1 := fun e => ?_) (k2 := fun e => ?_) (k3 := fun e3 e4 => ?_)
      · rw [if_pos e, ← r3] at hm; exact B_P_of_105 (k1 := hm)
      · rw [if_neg (by omega), if_pos e, ← r1] at hm; exact B_P_of_105 (k1 := hm)
      · rw [if_neg e3, if_neg e4, if_pos (by omega), ← r2] at hm; exact B_P_of_105 (k1 := hm)
    · rw [if_pos y, if_neg (by omega), if_neg (by omega), if_neg (by omega), if_neg (by omega), if_neg (by omega), if_neg (by omega), if_neg (by omega), if_neg (by omega)] at h0
      exact B_P_of_105 (k1 := h0)
  · rw [if_neg y] at h0; exact h0
theorem c_M_of (hC : CM μ V T) (h : ∀ μ', KFr μ μ' → Q (some (aI (ofV T V p w))) μ') : Cal g (d + 7) m_M_of [aR 31 0, aI p, aI w] μ Q := by
  have hn := hC.2.1.1
  have hsz := hC.sz
  have h5 := hC.2.2.2.2
  have h0 := h μ (KFr.rf h5)
  unfold ofV at h0 h
  have ea : ∀ {q}, 0 ≤ q → q < 6 → va V q = bI (b_and (b_shr (μ 31 0 2) q) 1 = 1) := fun q0 q6 => by rw [← hC.1]; exact va_M q0 q6
  refine T_M_of (k1 := fun y z => ?_) (k2 := fun y z => ?_) (k3 := fun y z => ?_) (k4 := fun y z => ?_) (k5 := fun y z z2 => ?_) (k6 := fun y z z2 => ?_) (k7 := fun y z => ?_) (k8 := fun y z => ?_) (k9 := fun y z => ?_) (k10 := fun y z0 z1 z2 z3 z4 z5 z6 z7 => ?_) (k11 := fun y => ?_)
  all_goals rw [hsz] at y
  · rw [if_pos y, if_pos z, ← hC.1, vk_M (by omega) (by omega)] at h0; exact h0
  · rw [if_pos y, if_neg (by omega), if_pos z, ← hC.1, vv_M (by omega) (by omega)] at h0; exact h0
  · rw [if_pos y, if_neg (by omega), if_neg (by omega), if_pos z, ← hC.1, vu_M (by omega) (by omega)] at h0; exact h0
  · rw [if_pos y, if_neg (by omega), if_neg (by omega), if_neg (by omega), if_pos z, ← hC.1, vo_M (by omega) (by omega)] at h0; exact h0
  · rw [if_pos y, if_neg (by omega), if_neg (by omega), if_neg (by omega), if_neg (by omega), if_pos z, ea (by omega) (by omega), bI_f z2] at h0; exact h0
  · rw [if_pos y, if_neg (by omega), if_neg (by omega), if_neg (by omega), if_neg (by omega), if_pos z, ea (by omega) (by omega), bI_t z2] at h0; exact h0
  · refine Cal_le (show 4 ≤ d + 6 by omega) (c_M_lagV (d := 0) hC.2.2.2.1 hC.2.2.1 hC.1 hC.2.1 (by omega) h5 ⟨y.1, by omega⟩ (fun m hs => B_M_of_111 (k1 := ?_)))
    have hm := h m (hs.K h5)
    rw [if_pos y, if_neg (by omega), if_neg (by omega), if_neg (by omega), if_neg (by omega), if_neg (by omega), if_pos z] at hm; exact hm
  · refine Cal_le (show 5 ≤ d + 6 by omega) (c_M_comes (d := 0) hC.2.2.2.1 hC.2.2.1 hC.1 hC.2.1 (by omega) h5 ⟨y.1, by omega⟩ (fun m hs => B_M_of_117 (k1 := ?_)))
    have hm := h m (hs.K h5)
    rw [if_pos y, if_neg (by omega), if_neg (by omega), if_neg (by omega), if_neg (by omega), if_neg (by omega), if_neg (by omega), if_pos z] at hm; exact hm
  · refine Cal_le (show 6 ≤ d + 6 by omega) (c_M_rings (d := 0) hC.2.2.2.1 hC.2.2.1 hC.1 hC.2.1 (by omega) h5 ⟨y.1, by omega⟩ (fun m hs => B_M_of_123 (k1 := ?_)))
    have hm := h m (hs.K h5)
    rw [if_pos y, if_neg (by omega), if_neg (by omega), if_neg (by omega), if_neg (by omega), if_neg (by omega), if_neg (by omega), if_neg (by omega), if_pos z] at hm; exact hm
  · rw [if_pos y, if_neg z0, if_neg z1, if_neg z2, if_neg z3, if_neg z4, if_neg z5, if_neg z6, if_neg z7] at h0; exact h0
  · rw [if_neg y] at h0; exact h0
end
