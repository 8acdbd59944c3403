/-! Calls that change something: THE TEXT, and rows told by hand. -/
section
variable {g : aG} {μ : aM} {p w x n a b r k v u o : Int}
theorem w8_in (h0 : 0 ≤ x) (h1 : x ≤ 127) : w8 (w8 x) = x := by unfold w8; omega
theorem j_feed (hI : Inv μ) : Pair g 40 m_P_feed m_M_feed [aI x] μ := by
  intro Q h
  obtain ⟨e1, e2, e3⟩ := hI.tx
  refine T_P_feed (d := 38) (k1 := fun z1 => h _ _ (fun Q' h' => ?_)) (k2 := fun z1 z2 z3 => ?_) (k3 := fun z1 z2 z3 => h _ _ (fun Q' h' => ?_)) (k4 := fun z1 z2 => h _ _ (fun Q' h' => ?_))
  · exact T_M_feed (d := 38) (k1 := fun z => absurd z (by omega)) (k2 := fun z => absurd z (by omega)) (k3 := fun _ => h' _ hI)
  · refine T_Re_append (d := 38) (k1 := fun z => absurd z (by omega)) (k2 := fun _ => B_P_feed_36 (k1 := h _ _ (fun Q' h' => ?_)))
    rw [w8_in z1 z2]
    have f1 : up (up μ 20 0 (μ 19 0 1) x) 19 0 1 (μ 19 0 1 + 1) 31 0 10 = μ 19 0 1 := by rw [up_other (by decide), up_other (by decide)]; exact e1
    refine T_M_feed (d := 38) (b1 := by intros; omega) (b2 := by intros; omega) (k1 := fun _ _ => ?_) (k2 := fun _ z => absurd z (by omega)) (k3 := fun z => absurd (by omega) z)
    rw [f1]
    refine h' _ (hI.go (X := fun k i j => i = 0 ∧ ((k = 19 ∧ j = 1) ∨ k = 20 ∨ (k = 31 ∧ j = 10) ∨ k = 37)) ((((Tch.rf.up (by omega)).up (by omega)).up (by omega)).up (by omega)) (tx := Or.inl ?_))
    unfold TX
    have g1 : up (up (up (up μ 20 0 (μ 19 0 1) x) 19 0 1 (μ 19 0 1 + 1)) 37 0 (μ 19 0 1) x) 31 0 10 (μ 19 0 1 + 1) 19 0 1 = μ 19 0 1 + 1 := by rw [up_other (by decide), up_other (by decide), up_same]
    rw [up_same, g1]
    refine ⟨rfl, by omega, fun i i0 i1 => ?_⟩
    have r37 : up (up (up (up μ 20 0 (μ 19 0 1) x) 19 0 1 (μ 19 0 1 + 1)) 37 0 (μ 19 0 1) x) 31 0 10 (μ 19 0 1 + 1) 37 0 = pu (μ 37 0) (μ 19 0 1) x := by simp [up_row, up_k]
    have r20 : up (up (up (up μ 20 0 (μ 19 0 1) x) 19 0 1 (μ 19 0 1 + 1)) 37 0 (μ 19 0 1) x) 31 0 10 (μ 19 0 1 + 1) 20 0 = pu (μ 20 0) (μ 19 0 1) x := by simp [up_row, up_k]
    rw [r37, r20]
    unfold pu
    by_cases e : i = μ 19 0 1
    · rw [if_pos e, if_pos e]; exact ⟨rfl, z1, z2⟩
    · rw [if_neg e, if_neg e]; exact e3 i i0 (by omega)
  · exact T_M_feed (d := 38) (k1 := fun _ z => absurd (by omega) z) (k2 := fun _ _ => h' _ hI) (k3 := fun z => absurd (by omega) z)
  · exact T_M_feed (d := 38) (k1 := fun z => absurd z (by omega)) (k2 := fun z => absurd z (by omega)) (k3 := fun _ => h' _ hI)
theorem SN.add {n n' : Int} {P O D P' O' D' : Int → Int} {p x d : Int} (h : SN n n' P O D P' O' D') (hn : n < 5) (hp : 0 ≤ p ∧ p < 6) (hd : 0 ≤ d ∧ d ≤ 20) : SN (n + 1) (n + 1) (pu P n p) (pu O n x) (pu D n d) (pu P' n p) (pu O' n x) (pu D' n d) := by
  obtain ⟨h1, h2, h3⟩ := h
  refine ⟨rfl, by omega, fun k k0 k1 => ?_⟩
  unfold pu
  by_cases e : k = n
  · rw [if_pos e, if_pos e, if_pos e, if_pos e, if_pos e, if_pos e]; exact ⟨⟨rfl, rfl, rfl⟩, hp, hd⟩
  · rw [if_neg e, if_neg e, if_neg e, if_neg e, if_neg e, if_neg e]; exact h3 k k0 (by omega)
theorem SN.e0 {P O D P' O' D' : Int → Int} : SN 0 0 P O D P' O' D' := ⟨rfl, by omega, fun k k0 k1 => absurd k1 (by omega)⟩
theorem WK.add {n n' : Int} {W P W' P' : Int → Int} {p p' x : Int} (h : WK n n' W P W' P') (hn : n < 10) (hx : 0 ≤ x ∧ x ≤ 3) (hp : x ≠ 0 → p' = p ∧ 0 ≤ p ∧ p < 6) : WK (n + 1) (n + 1) (pu W n x) (pu P n p) (pu W' n x) (pu P' n p') := by
  obtain ⟨h1, h2, h3⟩ := h
  refine ⟨rfl, by omega, fun k k0 k1 => ?_⟩
  unfold pu
  by_cases e : k = n
  · rw [if_pos e, if_pos e, if_pos e, if_pos e]; exact ⟨rfl, hx, hp⟩
  · rw [if_neg e, if_neg e, if_neg e, if_neg e]; exact h3 k k0 (by omega)
theorem WK.e0 {W P W' P' : Int → Int} : WK 0 0 W P W' P' := ⟨rfl, by omega, fun k k0 k1 => absurd k1 (by omega)⟩
theorem BK.add {n n' : Int} {P O P' O' : Int → Int} {p x : Int} (h : BK n n' P O P' O') (hn : n < 8) (hp : 0 ≤ p ∧ p < 6) : BK (n + 1) (n + 1) (pu P n p) (pu O n x) (pu P' n p) (pu O' n x) := by
  obtain ⟨h1, h2, h3⟩ := h
  refine ⟨rfl, by omega, fun k k0 k1 => ?_⟩
  unfold pu
  by_cases e : k = n
  · rw [if_pos e, if_pos e, if_pos e, if_pos e]; exact ⟨rfl, rfl, hp⟩
  · rw [if_neg e, if_neg e, if_neg e, if_neg e]; exact h3 k k0 (by omega)
theorem BK.e0 {P O P' O' : Int → Int} : BK 0 0 P O P' O' := ⟨rfl, by omega, fun k k0 k1 => absurd k1 (by omega)⟩
theorem j_see (hI : Inv μ) : Pair g 40 m_P_see m_M_see [aI p, aI x, aI n] μ := by
  intro Q h
  have hn := hI_n hI
  have hn1 := hn.1
  have hs := hI.sn
  obtain ⟨e1, e2, e3⟩ := hI.sn
  clear e3
  have hm := hI.mo.1.1
  have hno : ∀ r, (∀ Q' : aQ, Q' (some r) μ → Cal g 40 m_M_see [aR 31 0, aI p, aI x, aI n] μ Q') → ∀ Q' : aQ, (∀ μ2, Inv μ2 → Q' (some r) μ2) → Cal g 40 m_M_see [aR 31 0, aI p, aI x, aI n] μ Q' := fun v hk Q' h' => hk Q' (h' μ hI)
  refine T_P_see (d := 38) (k1 := fun z1 z2 z3 => h _ _ (hno _ fun Q' h' => ?_)) (k2 := fun z1 z2 z3 z4 => ?_) (k3 := fun z1 z2 z3 z4 => h _ _ (hno _ fun Q' h' => ?_)) (k4 := fun z1 z2 => h _ _ (hno _ fun Q' h' => ?_)) (k5 := fun z1 => ?_)
  · exact T_M_see (d := 37) (k1 := fun _ _ _ => h') (k2 := fun _ _ z => absurd z z3) (k3 := fun _ _ z => absurd z z3) (k4 := fun _ _ z => absurd z z3) (k5 := fun _ z => absurd (by omega) z) (k6 := fun z => absurd z z1)
  · refine T_No_add (d := 38) (b1 := by intros; show _ ∧ _ < (5 : Int); omega) (b2 := by intros; show _ ∧ _ < (5 : Int); omega) (b3 := by intros; show _ ∧ _ < (5 : Int); omega) (k1 := fun y1 => B_P_see_58 (k1 := h _ _ (fun Q' h' => ?_))) (k2 := fun y1 => B_P_see_58 (k1 := h _ _ (hno _ fun Q' h' => ?_)))
    · have f0 : up (up (up (up μ 10 0 (μ 9 0 1) p) 11 0 (μ 9 0 1) x) 12 0 (μ 9 0 1) n) 9 0 1 (μ 9 0 1 + 1) 31 = μ 31 := by simp [up_k]
      have hin : ∀ y1 y2 y3 y4 : Int, y1 = μ 9 0 1 → y2 = μ 9 0 1 → y3 = μ 9 0 1 → y4 = μ 9 0 1 + 1 → Inv (up (up (up (up (up (up (up (up μ 10 0 (μ 9 0 1) p) 11 0 (μ 9 0 1) x) 12 0 (μ 9 0 1) n) 9 0 1 (μ 9 0 1 + 1)) 52 0 y1 p) 53 0 y2 x) 54 0 y3 n) 31 0 35 y4) := by
        intro y1 y2 y3 y4 q1 q2 q3 q4
        subst q1; subst q2; subst q3; subst q4
        refine hI.go (X := fun k i j => i = 0 ∧ ((k = 9 ∧ j = 1) ∨ (10 ≤ k ∧ k ≤ 12) ∨ (k = 31 ∧ j = 35) ∨ (52 ≤ k ∧ k ≤ 54))) ((((((((Tch.rf.up (by omega)).up (by omega)).up (by omega)).up (by omega)).up (by omega)).up (by omega)).up (by omega)).up (by omega)) (sn := Or.inl ?_)
        have := SN.add (p := p) (x := x) (d := n) hs (by omega) (by omega) z4
        unfold SN0
        simp [up_row, up_k, pu] at this ⊢
        exact this
      rw [up_same] at h'
      refine T_M_see (d := 37) (b1 := by rw [f0]; omega) (k1 := fun _ _ z => absurd z3 z) (b2 := by rw [f0]; intros; omega) (b3 := by rw [f0]; intros; omega) (b4 := by rw [f0]; intros; omega) (b5 := by rw [f0]; intros; omega) (k2 := fun _ _ _ _ _ => ?_) (k3 := fun _ _ _ _ z => absurd z (by rw [f0]; omega)) (k4 := fun _ _ _ z => absurd z4 z) (k5 := fun _ z => absurd (by rw [f0]; omega) z) (k6 := fun z => absurd z z1)
      rw [f0, e1]
      exact h' _ (hin _ _ _ _ rfl rfl rfl rfl)
    · exact T_M_see (d := 37) (k1 := fun _ _ z => absurd z3 z) (k2 := fun _ _ _ _ z => absurd (by omega) z) (k3 := fun _ _ _ _ _ => h') (k4 := fun _ _ _ z => absurd z4 z) (k5 := fun _ z => absurd (by omega) z) (k6 := fun z => absurd z z1)
  · exact T_M_see (d := 37) (k1 := fun _ _ _ => h') (k2 := fun _ _ _ z => absurd z z4) (k3 := fun _ _ _ z => absurd z z4) (k4 := fun _ _ _ _ => h') (k5 := fun _ z => absurd (by omega) z) (k6 := fun z => absurd z z1)
  · exact T_M_see (d := 37) (k1 := fun _ z => absurd z (by omega)) (k2 := fun _ z => absurd z (by omega)) (k3 := fun _ z => absurd z (by omega)) (k4 := fun _ z => absurd z (by omega)) (k5 := fun _ _ => h') (k6 := fun z => absurd z z1)
  · refine T_No_empty (d := 38) (k1 := B_P_see_15 (k1 := h _ _ (fun Q' h' => ?_)))
    refine T_M_see (d := 37) (b1 := by rw [up_other (by decide)]; omega) (k1 := fun z => absurd z1 z) (b2 := fun z => absurd z1 z) (b3 := fun z => absurd z1 z) (b4 := fun z => absurd z1 z) (b5 := fun z => absurd z1 z) (k2 := fun z => absurd z1 z) (k3 := fun z => absurd z1 z) (k4 := fun z => absurd z1 z) (k5 := fun z => absurd z1 z) (k6 := fun _ => ?_)
    refine h' _ (hI.go (X := fun k i j => i = 0 ∧ ((k = 9 ∧ j = 1) ∨ (k = 31 ∧ j = 35))) (((Tch.rf.up (by omega)).up (by omega))) (sn := Or.inl ?_))
    unfold SN0
    rw [up_same, up_other (by decide), up_same]
    exact SN.e0
theorem j_week (hI : Inv μ) : Pair g 40 m_P_week m_M_week [aI x, aI p] μ := by
  intro Q h
  have hn := hI_n hI
  have hn1 := hn.1
  have hs := hI.wk
  obtain ⟨e1, e2, e3⟩ := hI.wk
  clear e3
  have hm := hI.mo.1.2.1
  have hno : ∀ r, (∀ Q' : aQ, Q' (some r) μ → Cal g 40 m_M_week [aR 31 0, aI x, aI p] μ Q') → ∀ Q' : aQ, (∀ μ2, Inv μ2 → Q' (some r) μ2) → Cal g 40 m_M_week [aR 31 0, aI x, aI p] μ Q' := fun v hk Q' h' => hk Q' (h' μ hI)
  have hin : μ 9 1 1 < 10 → (0 ≤ x ∧ x ≤ 3) → ∀ p', (x ≠ 0 → p' = p ∧ 0 ≤ p ∧ p < 6) → ∀ y1 y2 y3 : Int, y1 = μ 9 1 1 → y2 = μ 9 1 1 → y3 = μ 9 1 1 + 1 → Inv (up (up (up (up (up (up (up μ 10 1 (μ 9 1 1) p) 11 1 (μ 9 1 1) x) 12 1 (μ 9 1 1) 0) 9 1 1 (μ 9 1 1 + 1)) 55 0 y1 x) 56 0 y2 p') 31 0 39 y3) := by
    intro hl hx p' hp y1 y2 y3 q1 q2 q3
    subst q1; subst q2; subst q3
    refine hI.go (X := fun k i j => (i = 1 ∧ ((k = 9 ∧ j = 1) ∨ (10 ≤ k ∧ k ≤ 12))) ∨ (i = 0 ∧ ((k = 31 ∧ j = 39) ∨ (55 ≤ k ∧ k ≤ 56)))) (((((((Tch.rf.up (by omega)).up (by omega)).up (by omega)).up (by omega)).up (by omega)).up (by omega)).up (by omega)) (wk := Or.inl ?_)
    have := WK.add (p := p) (p' := p') (x := x) hs hl hx hp
    unfold WK0
    simp [up_row, up_k, pu] at this ⊢
    exact this
  have f0 : up (up (up (up μ 10 1 (μ 9 1 1) p) 11 1 (μ 9 1 1) x) 12 1 (μ 9 1 1) 0) 9 1 1 (μ 9 1 1 + 1) 31 = μ 31 := by simp [up_k]
  have key : (x ≠ -1) → (0 ≤ x ∧ x ≤ 3) → (x ≠ 0 → 0 ≤ p ∧ p < μ 2 0 0) → Cal g 39 m_No_add [aR 9 1, aI p, aI x, aI 0] μ (fun rv μ' => Rn g 39 m_P_week 52 [some (aR 0 0), some (aI x), some (aI p)] (optL rv ++ []) μ' Q) := by
    intro z1 zx zp
    refine T_No_add (d := 38) (b1 := by intros; show _ ∧ _ < (10 : Int); omega) (b2 := by intros; show _ ∧ _ < (10 : Int); omega) (b3 := by intros; show _ ∧ _ < (10 : Int); omega) (k1 := fun y1 => B_P_week_52 (k1 := h _ _ (fun Q' h' => ?_))) (k2 := fun y1 => B_P_week_52 (k1 := h _ _ (hno _ fun Q' h' => ?_)))
    · rw [up_same] at h'
      have g1 : ∀ z, Inv z → Q' (some (aI (up (up (up (up μ 10 1 (μ 9 1 1) p) 11 1 (μ 9 1 1) x) 12 1 (μ 9 1 1) 0) 9 1 1 (μ 9 1 1 + 1) 31 0 39 + 1))) z := by rw [f0, e1]; exact h'
      have hz0 : x ≤ 0 → Inv (up (up (up (up (up (up (up μ 10 1 (μ 9 1 1) p) 11 1 (μ 9 1 1) x) 12 1 (μ 9 1 1) 0) 9 1 1 (μ 9 1 1 + 1)) 55 0 (up (up (up (up μ 10 1 (μ 9 1 1) p) 11 1 (μ 9 1 1) x) 12 1 (μ 9 1 1) 0) 9 1 1 (μ 9 1 1 + 1) 31 0 39) x) 56 0 (up (up (up (up μ 10 1 (μ 9 1 1) p) 11 1 (μ 9 1 1) x) 12 1 (μ 9 1 1) 0) 9 1 1 (μ 9 1 1 + 1) 31 0 39) 0) 31 0 39 (up (up (up (up μ 10 1 (μ 9 1 1) p) 11 1 (μ 9 1 1) x) 12 1 (μ 9 1 1) 0) 9 1 1 (μ 9 1 1 + 1) 31 0 39 + 1)) := fun z0 => hin (by omega) zx 0 (fun z => absurd z (by omega)) _ _ _ (by rw [f0, e1]) (by rw [f0, e1]) (by rw [f0, e1])
      have hz1 : 0 < x → Inv (up (up (up (up (up (up (up μ 10 1 (μ 9 1 1) p) 11 1 (μ 9 1 1) x) 12 1 (μ 9 1 1) 0) 9 1 1 (μ 9 1 1 + 1)) 55 0 (up (up (up (up μ 10 1 (μ 9 1 1) p) 11 1 (μ 9 1 1) x) 12 1 (μ 9 1 1) 0) 9 1 1 (μ 9 1 1 + 1) 31 0 39) x) 56 0 (up (up (up (up μ 10 1 (μ 9 1 1) p) 11 1 (μ 9 1 1) x) 12 1 (μ 9 1 1) 0) 9 1 1 (μ 9 1 1 + 1) 31 0 39) p) 31 0 39 (up (up (up (up μ 10 1 (μ 9 1 1) p) 11 1 (μ 9 1 1) x) 12 1 (μ 9 1 1) 0) 9 1 1 (μ 9 1 1 + 1) 31 0 39 + 1)) := fun z0 => hin (by omega) zx p (fun z => ⟨rfl, by have := zp z; omega⟩) _ _ _ (by rw [f0, e1]) (by rw [f0, e1]) (by rw [f0, e1])
      have f39 : up (up (up (up μ 10 1 (μ 9 1 1) p) 11 1 (μ 9 1 1) x) 12 1 (μ 9 1 1) 0) 9 1 1 (μ 9 1 1 + 1) 31 0 39 = μ 9 1 1 := by rw [f0, e1]
      have f00 : up (up (up (up μ 10 1 (μ 9 1 1) p) 11 1 (μ 9 1 1) x) 12 1 (μ 9 1 1) 0) 9 1 1 (μ 9 1 1 + 1) 31 0 0 = μ 2 0 0 := by rw [f0, hn1]
      clear f0 hin hno h'
      generalize up (up (up (up μ 10 1 (μ 9 1 1) p) 11 1 (μ 9 1 1) x) 12 1 (μ 9 1 1) 0) 9 1 1 (μ 9 1 1 + 1) = m at g1 hz0 hz1 f39 f00 ⊢
      by_cases zz : x = 0
      · clear zp
        exact T_M_week (d := 37) (k1 := fun _ z => absurd (by omega) z) (k2 := fun _ _ z0 _ _ => g1 _ (hz0 z0)) (k3 := fun _ _ _ _ z0 => g1 _ (hz1 z0)) (k4 := fun _ _ _ z => absurd z (by omega)) (k5 := fun _ _ _ _ _ z0 => g1 _ (hz0 z0)) (k6 := fun _ _ _ _ _ z0 => g1 _ (hz1 z0)) (k7 := fun _ _ _ _ z => absurd z (by omega)) (k8 := fun _ _ z _ => absurd z (by omega)) (k9 := fun z => absurd z z1)
      · have zp' := zp zz
        clear zp
        exact T_M_week (d := 37) (k1 := fun _ z => absurd (by omega) z) (k2 := fun _ _ z0 _ _ => g1 _ (hz0 z0)) (k3 := fun _ _ _ _ z0 => g1 _ (hz1 z0)) (k4 := fun _ _ _ z => absurd z (by omega)) (k5 := fun _ _ _ _ _ z0 => g1 _ (hz0 z0)) (k6 := fun _ _ _ _ _ z0 => g1 _ (hz1 z0)) (k7 := fun _ _ _ _ z => absurd z (by omega)) (k8 := fun _ _ _ z => absurd (by omega) z) (k9 := fun z => absurd z z1)
    · clear hin hno
      by_cases zz : x = 0
      · clear zp
        exact T_M_week (d := 37) (k1 := fun _ z => absurd (by omega) z) (k2 := fun _ _ _ z _ => absurd z (by omega)) (k3 := fun _ _ _ z _ => absurd z (by omega)) (k4 := fun _ _ _ z => h') (k5 := fun _ _ _ _ z _ => absurd z (by omega)) (k6 := fun _ _ _ _ z _ => absurd z (by omega)) (k7 := fun _ _ _ _ z => h') (k8 := fun _ _ z _ => absurd z (by omega)) (k9 := fun z => absurd z z1)
      · have zp' := zp zz
        clear zp
        exact T_M_week (d := 37) (k1 := fun _ z => absurd (by omega) z) (k2 := fun _ _ _ z _ => absurd z (by omega)) (k3 := fun _ _ _ z _ => absurd z (by omega)) (k4 := fun _ _ _ z => h') (k5 := fun _ _ _ _ z _ => absurd z (by omega)) (k6 := fun _ _ _ _ z _ => absurd z (by omega)) (k7 := fun _ _ _ _ z => h') (k8 := fun _ _ _ z => absurd (by omega) z) (k9 := fun z => absurd z z1)
  clear hin
  refine T_P_week (d := 38) (k1 := fun z1 z2 => h _ _ (hno _ fun Q' h' => ?_)) (k2 := fun z1 z2 z3 => h _ _ (hno _ fun Q' h' => ?_)) (k3 := fun z1 z2 z3 z4 => key z1 (by omega) (fun z => absurd z (by omega))) (k4 := fun z1 z2 z3 z4 z5 => key z1 (by omega) (fun z => z5)) (k5 := fun z1 z2 z3 z4 z5 => h _ _ (hno _ fun Q' h' => ?_)) (k6 := fun z1 => ?_)
  · clear key hno
    exact T_M_week (d := 37) (k1 := fun _ _ => h') (k2 := fun _ z _ _ _ => absurd z (by omega)) (k3 := fun _ z _ _ _ => absurd z (by omega)) (k4 := fun _ z _ _ => absurd z (by omega)) (k5 := fun _ z _ _ _ _ => absurd z (by omega)) (k6 := fun _ z _ _ _ _ => absurd z (by omega)) (k7 := fun _ z _ _ _ => absurd z (by omega)) (k8 := fun _ z _ _ => absurd z (by omega)) (k9 := fun z => absurd z z1)
  · clear key hno
    exact T_M_week (d := 37) (k1 := fun _ _ => h') (k2 := fun _ z _ _ _ => absurd z (by omega)) (k3 := fun _ z _ _ _ => absurd z (by omega)) (k4 := fun _ z _ _ => absurd z (by omega)) (k5 := fun _ z _ _ _ _ => absurd z (by omega)) (k6 := fun _ z _ _ _ _ => absurd z (by omega)) (k7 := fun _ z _ _ _ => absurd z (by omega)) (k8 := fun _ z _ _ => absurd z (by omega)) (k9 := fun z => absurd z z1)
  · clear key hno
    exact T_M_week (d := 37) (k1 := fun _ z => absurd (by omega) z) (k2 := fun _ _ z _ _ => absurd z (by omega)) (k3 := fun _ _ z _ _ => absurd z (by omega)) (k4 := fun _ _ z _ => absurd z (by omega)) (k5 := fun _ _ _ z _ _ => absurd z (by omega)) (k6 := fun _ _ _ z _ _ => absurd z (by omega)) (k7 := fun _ _ _ z _ => absurd z (by omega)) (k8 := fun _ _ _ _ => h') (k9 := fun z => absurd z z1)
  · clear key hno
    refine T_No_empty (d := 38) (k1 := B_P_week_15 (k1 := h _ _ (fun Q' h' => ?_)))
    have f1 : up μ 9 1 1 0 31 = μ 31 := by simp [up_k]
    refine T_M_week (d := 37) (b1 := by rw [f1]; intros; omega) (k1 := fun z => absurd z1 z) (k2 := fun z => absurd z1 z) (k3 := fun z => absurd z1 z) (k4 := fun z => absurd z1 z) (k5 := fun z => absurd z1 z) (k6 := fun z => absurd z1 z) (k7 := fun z => absurd z1 z) (k8 := fun z => absurd z1 z) (k9 := fun _ => ?_)
    refine h' _ (hI.go (X := fun k i j => (i = 1 ∧ k = 9 ∧ j = 1) ∨ (i = 0 ∧ k = 31 ∧ j = 39)) (((Tch.rf.up (by omega)).up (by omega))) (wk := Or.inl ?_))
    unfold WK0
    rw [up_same, up_other (by decide), up_same]
    exact WK.e0
theorem j_book (hI : Inv μ) : Pair g 40 m_P_book m_M_book [aI p, aI x] μ := by
  intro Q h
  have hn := hI_n hI
  have hn1 := hn.1
  have hs := hI.bk
  obtain ⟨e1, e2, e3⟩ := hI.bk
  clear e3
  have hm := hI.mo.1.2.2
  have hno : ∀ r, (∀ Q' : aQ, Q' (some r) μ → Cal g 40 m_M_book [aR 31 0, aI p, aI x] μ Q') → ∀ Q' : aQ, (∀ μ2, Inv μ2 → Q' (some r) μ2) → Cal g 40 m_M_book [aR 31 0, aI p, aI x] μ Q' := fun v hk Q' h' => hk Q' (h' μ hI)
  refine T_P_book (d := 38) (k1 := fun z1 z2 z3 => ?_) (k2 := fun z1 z2 z3 => h _ _ (hno _ fun Q' h' => ?_)) (k3 := fun z1 z2 => h _ _ (hno _ fun Q' h' => ?_)) (k4 := fun z1 => ?_)
  · refine T_No_add (d := 38) (b1 := by intros; show _ ∧ _ < (8 : Int); omega) (b2 := by intros; show _ ∧ _ < (8 : Int); omega) (b3 := by intros; show _ ∧ _ < (8 : Int); omega) (k1 := fun y1 => B_P_book_49 (k1 := h _ _ (fun Q' h' => ?_))) (k2 := fun y1 => B_P_book_49 (k1 := h _ _ (hno _ fun Q' h' => ?_)))
    · have f0 : up (up (up (up μ 10 2 (μ 9 2 1) p) 11 2 (μ 9 2 1) x) 12 2 (μ 9 2 1) 0) 9 2 1 (μ 9 2 1 + 1) 31 = μ 31 := by simp [up_k]
      have hin : ∀ y1 y2 y4 : Int, y1 = μ 9 2 1 → y2 = μ 9 2 1 → y4 = μ 9 2 1 + 1 → Inv (up (up (up (up (up (up (up μ 10 2 (μ 9 2 1) p) 11 2 (μ 9 2 1) x) 12 2 (μ 9 2 1) 0) 9 2 1 (μ 9 2 1 + 1)) 57 0 y1 p) 58 0 y2 x) 31 0 40 y4) := by
        intro y1 y2 y4 q1 q2 q4
        subst q1; subst q2; subst q4
        refine hI.go (X := fun k i j => (i = 2 ∧ ((k = 9 ∧ j = 1) ∨ (10 ≤ k ∧ k ≤ 12))) ∨ (i = 0 ∧ ((k = 31 ∧ j = 40) ∨ (57 ≤ k ∧ k ≤ 58)))) (((((((Tch.rf.up (by omega)).up (by omega)).up (by omega)).up (by omega)).up (by omega)).up (by omega)).up (by omega)) (bk := Or.inl ?_)
        have := BK.add (p := p) (x := x) hs (by omega) (by omega)
        unfold BK0
        simp [up_row, up_k, pu] at this ⊢
        exact this
      rw [up_same] at h'
      refine T_M_book (d := 37) (b1 := by rw [f0]; omega) (b2 := by rw [f0]; intros; omega) (b3 := by rw [f0]; intros; omega) (b4 := by rw [f0]; intros; omega) (k1 := fun _ _ _ _ => ?_) (k2 := fun _ _ _ z => absurd z (by rw [f0]; omega)) (k3 := fun _ _ z => absurd z3 z) (k4 := fun _ z => absurd (by rw [f0]; omega) z) (k5 := fun z => absurd z z1)
      rw [f0, e1]
      exact h' _ (hin _ _ _ rfl rfl rfl)
    · exact T_M_book (d := 37) (k1 := fun _ _ _ z => absurd (by omega) z) (k2 := fun _ _ _ _ => h') (k3 := fun _ _ z => absurd z3 z) (k4 := fun _ z => absurd (by omega) z) (k5 := fun z => absurd z z1)
  · exact T_M_book (d := 37) (k1 := fun _ _ z => absurd z z3) (k2 := fun _ _ z => absurd z z3) (k3 := fun _ _ _ => h') (k4 := fun _ z => absurd (by omega) z) (k5 := fun z => absurd z z1)
  · exact T_M_book (d := 37) (k1 := fun _ z => absurd z (by omega)) (k2 := fun _ z => absurd z (by omega)) (k3 := fun _ z => absurd z (by omega)) (k4 := fun _ _ => h') (k5 := fun z => absurd z z1)
  · refine T_No_empty (d := 38) (k1 := B_P_book_15 (k1 := h _ _ (fun Q' h' => ?_)))
    refine T_M_book (d := 37) (b1 := by rw [up_other (by decide)]; omega) (b2 := fun z => absurd z1 z) (b3 := fun z => absurd z1 z) (b4 := fun z => absurd z1 z) (k1 := fun z => absurd z1 z) (k2 := fun z => absurd z1 z) (k3 := fun z => absurd z1 z) (k4 := fun z => absurd z1 z) (k5 := fun _ => ?_)
    refine h' _ (hI.go (X := fun k i j => (i = 2 ∧ k = 9 ∧ j = 1) ∨ (i = 0 ∧ k = 31 ∧ j = 40)) (((Tch.rf.up (by omega)).up (by omega))) (bk := Or.inl ?_))
    unfold BK0
    rw [up_same, up_other (by decide), up_same]
    exact BK.e0
end
