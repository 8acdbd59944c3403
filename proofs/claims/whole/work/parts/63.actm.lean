/-! The acts of the reference. -/
section
variable {g : aG} {d : Nat} {μ m0 : aM} {Q : aQ} {x f a b k v i t dep : Int}
theorem m_W0 (h0 : 0 ≤ μ 31 0 65 ∧ μ 31 0 65 ≤ 1000) (h : ∀ m, KM μ m [10] → Q (some (aI (w32 (x + i)))) m) : Cal g (d + 2) m_M_personWakes [aR 31 0, aI i, aI x] μ Q :=
  TW_M_personWakes (d := d) (k1 := Cal_le (show 1 ≤ d + 1 by omega) (c_M_body (d := 0) h0 (fun m hm => BW_M_personWakes_6 (k1 := h m hm))))
theorem m_W (hi : 0 ≤ i ∧ i < 6) (hk : 0 ≤ k ∧ k ≤ 6) (h0 : 0 ≤ μ 31 0 65 ∧ μ 31 0 65 ≤ 900) (hkk : μ 32 0 i = k) (hv : μ 33 0 i = v) (h : ∀ m, KM μ m (waA k v i x).2 → Q (some (aI (waA k v i x).1)) m) : Cal g (d + 3) m_M_wakesAct [aR 31 0, aI i, aI x] μ Q := by
  subst hkk
  have b30 : (μ 32 0 i = 2 ∨ μ 32 0 i = 5) → Cal g (d + 2) m_M_body [aR 31 0, aI 30] μ (fun rv μ' => Rn g (d + 2) m_M_wakesAct 46 [some (aR 31 0), some (aI i), some (aI x)] (optL rv ++ []) μ' Q) := fun z => by
    have ew : waA (μ 32 0 i) v i x = (w32 (w32 (x * 3) + i), [30, 10]) := if_pos z
    rw [ew] at h
    refine Cal_le (show 1 ≤ d + 2 by omega) (c_M_body (d := 0) (by omega) (fun m hm => BW_M_wakesAct_46 (k1 := ?_)))
    have hn := hm.n h0
    exact m_W0 (by simp at hn; omega) (fun m2 hm2 => BW_M_wakesAct_54 (k1 := h m2 (hm.tr hm2)))
  have b10 : (μ 32 0 i = 0 ∨ μ 32 0 i = 1 ∨ μ 32 0 i = 3) → Cal g (d + 2) m_M_personWakes [aR 31 0, aI i, aI x] μ (fun rv μ' => Rn g (d + 2) m_M_wakesAct 95 [some (aR 31 0), some (aI i), some (aI x)] (optL rv ++ []) μ' Q) := fun z => by
    have ew : waA (μ 32 0 i) v i x = (w32 (x + i), [10]) := by unfold waA; rw [if_neg (by omega), if_neg (by omega), if_neg (by omega)]
    rw [ew] at h
    exact m_W0 (by omega) (fun m2 hm2 => BW_M_wakesAct_95 (k1 := h m2 hm2))
  refine TW_M_wakesAct (d := d) (b1 := hi) (k1 := fun z => b30 (Or.inl z)) (k2 := fun z => b10 (Or.inr (Or.inr z))) (k3 := fun z => ?_) (k4 := fun z => b30 (Or.inr z)) (k5 := fun z => ?_) (k6 := fun z1 z2 z3 z4 z5 => b10 (by omega))
  · have ew : waA (μ 32 0 i) v i x = (w32 (-(w32 (x + i))), [50, 10]) := by unfold waA; rw [if_neg (by omega), if_pos z]
    rw [ew] at h
    refine Cal_le (show 1 ≤ d + 2 by omega) (c_M_body (d := 0) (by omega) (fun m hm => BW_M_wakesAct_61 (k1 := ?_)))
    have hn := hm.n h0
    exact m_W0 (by simp at hn; omega) (fun m2 hm2 => BW_M_wakesAct_67 (k1 := h m2 (hm.tr hm2)))
  · have ew : waA (μ 32 0 i) v i x = (b_xor (w32 (x + i)) v, [71, 10]) := by unfold waA; rw [if_neg (by omega), if_neg (by omega), if_pos z]
    rw [ew] at h
    refine Cal_le (show 1 ≤ d + 2 by omega) (c_M_body (d := 0) (by omega) (fun m hm => BW_M_wakesAct_75 (k1 := ?_)))
    have hn := hm.n h0
    refine m_W0 (by simp at hn; omega) (fun m2 hm2 => BW_M_wakesAct_81 (b1 := hi) (k1 := ?_))
    rw [hm2.fl.2, hm.fl.2, hv]
    exact h m2 (hm.tr hm2)
theorem m_R0 (hi : 0 ≤ i ∧ i < 6) (hk : 0 ≤ k ∧ k ≤ 6) (h0 : 0 ≤ μ 31 0 65 ∧ μ 31 0 65 ≤ 800) (hkk : μ 32 0 i = k) (hv : μ 33 0 i = v) (h : ∀ m, KM μ m (prA k v i x).2 → Q (some (aI (prA k v i x).1)) m) : Cal g (d + 4) m_M_personRings [aR 31 0, aI i, aI x] μ Q := by
  refine TW_M_personRings (d := d) (k1 := Cal_le (show 1 ≤ d + 3 by omega) (c_M_body (d := 0) (by omega) (fun m hm => BW_M_personRings_6 (k1 := ?_))))
  have hn := hm.n h0
  refine m_W (d := d) (k := k) (v := v) hi hk (by simp at hn; omega) (by rw [hm.fl.1]; exact hkk) (by rw [hm.fl.2]; exact hv) (fun m2 hm2 => BW_M_personRings_12 (b1 := hi) (k1 := ?_))
  rw [hm2.fl.2, hm.fl.2, hv]
  exact h m2 (hm.tr hm2)
theorem m_R1 (hi : 0 ≤ i ∧ i < 6) (hk : 0 ≤ k ∧ k ≤ 6) (h0 : 0 ≤ μ 31 0 65 ∧ μ 31 0 65 ≤ 700) (hkk : μ 32 0 i = k) (hv : μ 33 0 i = v) (h : ∀ m, KM μ m (crA k v i x).2 → Q (some (aI (crA k v i x).1)) m) : Cal g (d + 5) m_M_carefulRings [aR 31 0, aI i, aI x] μ Q := by
  refine TW_M_carefulRings (d := d) (k1 := Cal_le (show 1 ≤ d + 4 by omega) (c_M_body (d := 0) (by omega) (fun m hm => BW_M_carefulRings_6 (k1 := ?_))))
  have hn := hm.n h0
  refine m_R0 (d := d) (k := k) (v := v) hi hk (by simp at hn; omega) (by rw [hm.fl.1]; exact hkk) (by rw [hm.fl.2]; exact hv) (fun m2 hm2 => BW_M_carefulRings_12 (k1 := ?_))
  exact h m2 (hm.tr hm2)
theorem m_R (hi : 0 ≤ i ∧ i < 6) (hk : 0 ≤ k ∧ k ≤ 6) (h0 : 0 ≤ μ 31 0 65 ∧ μ 31 0 65 ≤ 600) (hkk : μ 32 0 i = k) (hv : μ 33 0 i = v) (h : ∀ m, KM μ m (raA k v i x).2 → Q (some (aI (raA k v i x).1)) m) : Cal g (d + 6) m_M_ringsAct [aR 31 0, aI i, aI x] μ Q := by
  subst hkk
  refine TW_M_ringsAct (d := d) (b1 := hi) (k1 := fun z => ?_) (k2 := fun z => ?_) (k3 := fun z => ?_) (k4 := fun z1 z2 z3 => ?_)
  · have ew : raA (μ 32 0 i) v i x = crA (μ 32 0 i) v i x := if_pos z
    rw [ew] at h
    exact m_R1 (d := d) (k := μ 32 0 i) (v := v) hi hk (by omega) rfl hv (fun m2 hm2 => BW_M_ringsAct_46 (k1 := h m2 hm2))
  · have ew : raA (μ 32 0 i) v i x = ((crA (μ 32 0 i) v i (w32 (x + 1))).1, 51 :: (crA (μ 32 0 i) v i (w32 (x + 1))).2) := by unfold raA; rw [if_neg (by omega), if_pos z]
    rw [ew] at h
    refine Cal_le (show 1 ≤ d + 5 by omega) (c_M_body (d := 0) (by omega) (fun m hm => BW_M_ringsAct_53 (k1 := ?_)))
    have hn := hm.n h0
    exact m_R1 (d := d) (k := μ 32 0 i) (v := v) hi hk (by simp at hn; omega) (by rw [hm.fl.1]) (by rw [hm.fl.2]; exact hv) (fun m2 hm2 => BW_M_ringsAct_61 (k1 := h m2 (hm.tr hm2)))
  · have ew : raA (μ 32 0 i) v i x = (w32 ((prA (μ 32 0 i) v i x).1 + w32 (2 + i)), 70 :: ((prA (μ 32 0 i) v i x).2 ++ [10])) := by unfold raA; rw [if_neg (by omega), if_neg (by omega), if_pos z]
    rw [ew] at h
    refine Cal_le (show 1 ≤ d + 5 by omega) (c_M_body (d := 0) (by omega) (fun m hm => BW_M_ringsAct_68 (k1 := ?_)))
    have hn := hm.n h0
    refine Cal_le (show d + 4 ≤ d + 5 by omega) (m_R0 (d := d) (k := μ 32 0 i) (v := v) hi hk (by simp at hn; omega) (by rw [hm.fl.1]) (by rw [hm.fl.2]; exact hv) (fun m2 hm2 => BW_M_ringsAct_74 (k1 := ?_)))
    have hn2 := hm2.n (c := 601) (by simp at hn; omega)
    have hl := prA_len (k := μ 32 0 i) (v := v) (i := i) (x := x)
    exact Cal_le (show 2 ≤ d + 5 by omega) (m_W0 (d := 0) (by omega) (fun m3 hm3 => BW_M_ringsAct_82 (k1 := h m3 (hm.tr (hm2.tr hm3)))))
  · have ew : raA (μ 32 0 i) v i x = prA (μ 32 0 i) v i x := by unfold raA; rw [if_neg z1, if_neg z2, if_neg z3]
    rw [ew] at h
    exact Cal_le (show d + 4 ≤ d + 5 by omega) (m_R0 (d := d) (k := μ 32 0 i) (v := v) hi hk (by omega) rfl hv (fun m2 hm2 => BW_M_ringsAct_90 (k1 := h m2 hm2)))
theorem m_T0 (hi : 0 ≤ i ∧ i < 6) (hk : 0 ≤ k ∧ k ≤ 6) (h0 : 0 ≤ μ 31 0 65 ∧ μ 31 0 65 ≤ 500) (hkk : μ 32 0 i = k) (hv : μ 33 0 i = v) (h : ∀ m, KM μ m (ptA k v i x).2 → Q (some (aI (ptA k v i x).1)) m) : Cal g (d + 7) m_M_personTells [aR 31 0, aI i, aI x] μ Q := by
  refine TW_M_personTells (d := d) (k1 := Cal_le (show 1 ≤ d + 6 by omega) (c_M_body (d := 0) (by omega) (fun m hm => BW_M_personTells_6 (k1 := ?_))))
  have hn := hm.n h0
  refine m_R (d := d) (k := k) (v := v) hi hk (by simp at hn; omega) (by rw [hm.fl.1]; exact hkk) (by rw [hm.fl.2]; exact hv) (fun m2 hm2 => BW_M_personTells_12 (k1 := ?_))
  exact h m2 (hm.tr hm2)
theorem m_T (hi : 0 ≤ i ∧ i < 6) (hk : 0 ≤ k ∧ k ≤ 6) (h0 : 0 ≤ μ 31 0 65 ∧ μ 31 0 65 ≤ 400) (hkk : μ 32 0 i = k) (hv : μ 33 0 i = v) (h : ∀ m, KM μ m (taA k v i x).2 → Q (some (aI (taA k v i x).1)) m) : Cal g (d + 8) m_M_tellsAct [aR 31 0, aI i, aI x] μ Q := by
  subst hkk
  have b40 : (μ 32 0 i = 3 ∨ μ 32 0 i = 6) → Cal g (d + 7) m_M_body [aR 31 0, aI 40] μ (fun rv μ' => Rn g (d + 7) m_M_tellsAct 42 [some (aR 31 0), some (aI i), some (aI x), none] (optL rv ++ []) μ' Q) := fun z => by
    have ew : taA (μ 32 0 i) v i x = (w32 ((ptA (μ 32 0 i) v i x).1 + (raA (μ 32 0 i) v i 1).1), 40 :: ((ptA (μ 32 0 i) v i x).2 ++ (raA (μ 32 0 i) v i 1).2)) := if_pos z
    rw [ew] at h
    refine Cal_le (show 1 ≤ d + 7 by omega) (c_M_body (d := 0) (by omega) (fun m hm => BW_M_tellsAct_42 (k1 := ?_)))
    have hn := hm.n h0
    refine m_T0 (d := d) (k := μ 32 0 i) (v := v) hi hk (by simp at hn; omega) (by rw [hm.fl.1]) (by rw [hm.fl.2]; exact hv) (fun m2 hm2 => BW_M_tellsAct_48 (k1 := ?_))
    have hn2 := hm2.n (c := 401) (by simp at hn; omega)
    have hl := ptA_len (k := μ 32 0 i) (v := v) (i := i) (x := x)
    exact Cal_le (show d + 6 ≤ d + 7 by omega) (m_R (d := d) (k := μ 32 0 i) (v := v) hi hk (by omega) (by rw [hm2.fl.1, hm.fl.1]) (by rw [hm2.fl.2, hm.fl.2]; exact hv) (fun m3 hm3 => BW_M_tellsAct_56 (k1 := h m3 (hm.tr (hm2.tr hm3)))))
  have b12 : (μ 32 0 i = 0 ∨ μ 32 0 i = 1 ∨ μ 32 0 i = 2 ∨ μ 32 0 i = 4) → Cal g (d + 7) m_M_personTells [aR 31 0, aI i, aI x] μ (fun rv μ' => Rn g (d + 7) m_M_tellsAct 79 [some (aR 31 0), some (aI i), some (aI x), none] (optL rv ++ []) μ' Q) := fun z => by
    have ew : taA (μ 32 0 i) v i x = ptA (μ 32 0 i) v i x := by unfold taA; rw [if_neg (by omega), if_neg (by omega)]
    rw [ew] at h
    exact m_T0 (d := d) (k := μ 32 0 i) (v := v) hi hk (by omega) rfl hv (fun m2 hm2 => BW_M_tellsAct_79 (k1 := h m2 hm2))
  refine TW_M_tellsAct (d := d) (b1 := hi) (k1 := fun z => b40 (Or.inl z)) (k2 := fun z => b12 (by omega)) (k3 := fun z => ?_) (k4 := fun z => b40 (Or.inr z)) (k5 := fun z1 z2 z3 z4 => b12 (by omega))
  have ew : taA (μ 32 0 i) v i x = ((ptA (μ 32 0 i) v i (w32 (x - i))).1, 60 :: (ptA (μ 32 0 i) v i (w32 (x - i))).2) := by unfold taA; rw [if_neg (by omega), if_pos z]
  rw [ew] at h
  refine Cal_le (show 1 ≤ d + 7 by omega) (c_M_body (d := 0) (by omega) (fun m hm => BW_M_tellsAct_64 (k1 := ?_)))
  have hn := hm.n h0
  exact m_T0 (d := d) (k := μ 32 0 i) (v := v) hi hk (by simp at hn; omega) (by rw [hm.fl.1]) (by rw [hm.fl.2]; exact hv) (fun m2 hm2 => BW_M_tellsAct_72 (k1 := h m2 (hm.tr hm2)))
def LogR (s s' : Log) : Prop := s'.1 = s.1 ∧ 0 ≤ s.1 ∧ ∀ i, 0 ≤ i → i < 20 → i < s.1 → s'.2 i = s.2 i
theorem LogR.bb {s s' : Log} (h : LogR s s') : LogR (lgB s b) (lgB s' b) := by
  obtain ⟨h1, h2, h3⟩ := h
  refine ⟨?_, ?_, fun i i0 i1 i2 => ?_⟩
  · show s'.1 + 1 = s.1 + 1; rw [h1]
  · show 0 ≤ s.1 + 1; omega
  · have i2 : i < s.1 + 1 := i2
    show (if s'.1 < 20 then pu s'.2 s'.1 b else s'.2) i = (if s.1 < 20 then pu s.2 s.1 b else s.2) i
    rw [h1]
    by_cases e : s.1 < 20
    · rw [if_pos e, if_pos e]
      unfold pu
      by_cases e2 : i = s.1
      · rw [if_pos e2, if_pos e2]
      · rw [if_neg e2, if_neg e2]; exact h3 i i0 i1 (by omega)
    · rw [if_neg e, if_neg e]; exact h3 i i0 i1 (by omega)
theorem LogR.l : ∀ (L : List Int) {s s' : Log}, LogR s s' → LogR (L.foldl lgB s) (L.foldl lgB s') := by
  intro L
  induction L with
  | nil => intro s s' h; exact h
  | cons b L ih => intro s s' h; exact ih h.bb
theorem j_act (hI : Inv μ) : Pair g 40 m_P_act m_M_act [aI i, aI a, aI x] μ := by
  intro Q h
  have hn := hI_n hI
  have hn1 := hn.1
  have e0 : Inv (up (up μ 26 0 1 0) 31 0 65 0) := hI.go (X := fun k i j => i = 0 ∧ ((k = 26 ∧ j = 1) ∨ (k = 31 ∧ j = 65))) ((Tch.rf.up (by omega)).up (by omega)) (ac := Or.inl ⟨by rw [up_same, up_other (by decide), up_same], fun i i0 i1 i2 => absurd i2 (by rw [up_other (by decide), up_same]; omega)⟩)
  have f0 : up μ 26 0 1 0 31 0 0 = μ 2 0 0 := (up_other (by decide)).trans hn1
  refine T_P_act (d := 36) (k1 := fun z1 => h _ _ (fun Q' h' => ?_)) (k2 := fun z1 z2 => h _ _ (fun Q' h' => ?_)) (k3 := fun z1 z2 z3 => ?_) (k4 := fun z1 z2 z3 => h _ _ (fun Q' h' => ?_))
  · have h2 := h' _ e0
    exact T_M_act (d := 31) (b1 := by rw [f0]; omega) (k1 := fun _ => h2) (k2 := fun z => absurd (by rw [f0] at z; exact z) z1) (k3 := fun z => absurd (by rw [f0] at z; exact z) z1) (k4 := fun z => absurd (by rw [f0] at z; exact z) z1) (k5 := fun z => absurd (by rw [f0] at z; exact z) z1)
  · have h2 := h' _ e0
    exact T_M_act (d := 31) (b1 := by rw [f0]; omega) (k1 := fun _ => h2) (k2 := fun _ z => absurd z (by omega)) (k3 := fun _ z => absurd z (by omega)) (k4 := fun _ z => absurd z (by omega)) (k5 := fun _ _ => h2)
  · have ek := hI_k hI (i := i) z1.1 (by omega)
    have ev := hI_v hI (i := i) z1.1 (by omega)
    have r3 : up μ 26 0 1 0 3 0 i = μ 3 0 i := up_other (by decide)
    have r4 : up μ 26 0 1 0 4 0 i = μ 4 0 i := up_other (by decide)
    refine Cal_le (show 9 ≤ 39 by omega) (c_Ac_play (d := 0) (by rw [r3]; exact ek.2) (by omega) ⟨z2, z3⟩ (by rw [up_same]; omega) (fun m hm => B_P_act_44 (k1 := h _ _ (fun Q' h' => ?_))))
    rw [r3, r4] at hm
    have hr3 := r3; have hr4 := r4
    clear r3 r4
    have tm : Tch (fun k i j => i = 0 ∧ (k = 26 ∨ k = 27)) μ m := Tch.tr ((((Tch.rf.up (by omega)).up (by omega)).up (by omega)).up (by omega)) (fun k i j hx => hm.2 k i j (fun z => hx (by omega)))
    have lc : lC m = (acA a (μ 3 0 i) (μ 4 0 i) i x).2.foldl lgB (0, μ 27 0) := by
      rw [hm.1]
      congr 1
    have g0 : m 31 0 0 = μ 2 0 0 := by rw [tm 31 0 0 (by omega)]; exact hn1
    have g2 : up m 31 0 65 0 32 0 i = μ 3 0 i := by rw [up_other (by decide), tm 32 0 i (by omega)]; exact ek.1
    have g3 : up m 31 0 65 0 33 0 i = μ 4 0 i := by rw [up_other (by decide), tm 33 0 i (by omega)]; exact ev.1
    have fin : ∀ m2, KM (up m 31 0 65 0) m2 (acA a (μ 3 0 i) (μ 4 0 i) i x).2 → Q' (some (aI (acA a (μ 3 0 i) (μ 4 0 i) i x).1)) m2 := fun m2 hm2 => by
      rw [hr3, hr4] at h'
      refine h' _ (hI.go (X := fun k i j => i = 0 ∧ (k = 26 ∨ k = 27 ∨ (k = 31 ∧ j = 65) ∨ k = 71)) ?_ (ac := Or.inl ?_))
      · exact Tch.tr (Tch.up (fun k i j hx => tm k i j (fun z => hx (by omega))) (by omega)) (fun k i j hx => hm2.2 k i j (fun z => hx (by omega)))
      · have lm : lM m2 = (acA a (μ 3 0 i) (μ 4 0 i) i x).2.foldl lgB (0, m 71 0) := by
          rw [hm2.1]
          congr 1
        have hR := LogR.l (acA a (μ 3 0 i) (μ 4 0 i) i x).2 (s := (0, μ 27 0)) (s' := (0, m 71 0)) ⟨rfl, Int.le_refl 0, fun i i0 i1 i2 => absurd i2 (by show ¬ (i < 0); omega)⟩
        have lc2 : lC m2 = lC m := by
          show (_, _) = (_, _)
          rw [hm2.2 26 0 1 (by omega), hm2.2.row (k := 27) (i := 0) (fun j => by omega), up_other (by decide), up_k (by decide)]
        rw [← lm, ← lc, ← lc2] at hR
        exact ⟨hR.1, fun i i0 i1 i2 => hR.2.2 i i0 i1 i2⟩
    have hz : 0 ≤ up m 31 0 65 0 31 0 65 ∧ up m 31 0 65 0 31 0 65 ≤ 400 := by rw [up_same]; omega
    refine T_M_act (d := 31) (b1 := by rw [g0]; omega) (k1 := fun z => absurd (by rw [g0]; exact z1) z) (k2 := fun _ _ y1 y2 => ?_) (k3 := fun _ _ y1 y2 => ?_) (k4 := fun _ _ y1 => ?_) (k5 := fun _ z => absurd (by omega) z)
    · have e : acA a (μ 3 0 i) (μ 4 0 i) i x = taA (μ 3 0 i) (μ 4 0 i) i x := by unfold acA; rw [if_neg y1, if_neg y2]
      rw [e] at fin
      exact m_T (d := 31) (by omega) ek.2 hz g2 g3 (fun m2 hm2 => B_M_act_58 (k1 := fin m2 hm2))
    · have e : acA a (μ 3 0 i) (μ 4 0 i) i x = raA (μ 3 0 i) (μ 4 0 i) i x := by unfold acA; rw [if_neg y1, if_pos y2]
      rw [e] at fin
      exact Cal_le (show 6 ≤ 39 by omega) (m_R (d := 0) (by omega) ek.2 (by omega) g2 g3 (fun m2 hm2 => B_M_act_49 (k1 := fin m2 hm2)))
    · have e : acA a (μ 3 0 i) (μ 4 0 i) i x = waA (μ 3 0 i) (μ 4 0 i) i x := if_pos y1
      rw [e] at fin
      exact Cal_le (show 3 ≤ 39 by omega) (m_W (d := 0) (by omega) ek.2 (by omega) g2 g3 (fun m2 hm2 => B_M_act_35 (k1 := fin m2 hm2)))
  · have h2 := h' _ e0
    exact T_M_act (d := 31) (b1 := by rw [f0]; omega) (k1 := fun _ => h2) (k2 := fun _ z => absurd z (by omega)) (k3 := fun _ z => absurd z (by omega)) (k4 := fun _ z => absurd z (by omega)) (k5 := fun _ _ => h2)
end
