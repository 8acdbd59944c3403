/-! The reference reads an E: all of it. -/
section
variable {g : aG} {d : Nat} {μ m0 : aM} {Q : aQ} {x f a b k i t c n p w o W : Int} {ch : Int → Int} {P : Int → Rs}
theorem part_pm (hf : 0 ≤ f ∧ f ≤ 5) (hcc : 0 ≤ c ∧ c < 60) (hx : Txt ch n) : ∀ (v : Nat), v ≤ 4 → PM g d ch n f c (partF ch v) (v : Int) := by
  intro v
  induction v with
  | zero => intro _; exact pm_test hf hx (fun q => rfl) (fun _ _ => rfl) (by omega)
  | succ v ih =>
    intro hv μ Q j hc h0 ho h1 h2 h3 h4 hF hT
    have ihv := ih (by omega)
    have hx1 := hx.1
    have hc1 := hc.1
    have e0 := hc.nx hx h0.1
    have hgv : ∀ p, 0 ≤ p → p ≤ n → Gd n p 40 (partF ch v p) := fun p p0 p1 => (part_gd hx v (by omega) p p0 p1).mono (by omega)
    have ei := em_of (g := g) (d := d) (c := c) hf hx (v := (v : Int)) (W := 40) (by omega) (by omega) hgv ihv
    have on4 : μ 31 0 23 ≠ 4 := by omega
    refine B_M_takesE_22 (b1 := h0.1) (b2 := by omega) (b3 := fun _ _ _ => by omega) (b4 := fun _ _ _ => by omega) (b5 := fun _ _ _ => by omega) (b6 := fun _ _ _ => by omega) (b7 := fun _ _ _ _ => by omega) (b8 := fun _ _ _ _ => by omega) (b9 := fun _ _ _ _ => by omega) (b10 := fun _ _ _ _ => by omega) (k1 := fun z => absurd z (by decide)) (k2 := fun z => absurd z (by decide)) (k3 := fun z => absurd z (by decide)) (k4 := fun _ z _ => ?_) (k5 := fun _ _ z => absurd z on4) (k6 := fun _ z1 z2 => ?_) (k7 := fun _ z1 z2 _ => ?_) (k8 := fun _ _ _ z => absurd z on4)
    · -- !
      rw [e0] at z ⊢
      have l1 := hx.lt (p := μ 31 0 11) (by omega)
      rw [z]
      have km : KE f c μ (up (up (up (up μ 31 0 23 (μ 31 0 23 + 1)) 44 0 (μ 31 0 22) 33) 31 0 22 (μ 31 0 22 + 1)) 31 0 11 (μ 31 0 11 + 1)) [] := (((KE.rf.u (by omega)).st).u (by omega)).u (by omega)
      have p2 : up (up (up (up μ 31 0 23 (μ 31 0 23 + 1)) 44 0 (μ 31 0 22) 33) 31 0 22 (μ 31 0 22 + 1)) 31 0 11 (μ 31 0 11 + 1) 31 0 11 = μ 31 0 11 + 1 := up_same
      have w2 : up (up (up (up μ 31 0 23 (μ 31 0 23 + 1)) 44 0 (μ 31 0 22) 33) 31 0 22 (μ 31 0 22 + 1)) 31 0 11 (μ 31 0 11 + 1) 31 0 22 = μ 31 0 22 + 1 := by rw [up_ne (by decide), up_same]
      have o2 : up (up (up (up μ 31 0 23 (μ 31 0 23 + 1)) 44 0 (μ 31 0 22) 33) 31 0 22 (μ 31 0 22 + 1)) 31 0 11 (μ 31 0 11 + 1) 31 0 23 = μ 31 0 23 + 1 := by rw [up_ne (by decide), up_ne (by decide), up_other (by decide), up_same]
      have s2 : up (up (up (up μ 31 0 23 (μ 31 0 23 + 1)) 44 0 (μ 31 0 22) 33) 31 0 22 (μ 31 0 22 + 1)) 31 0 11 (μ 31 0 11 + 1) 31 0 21 = μ 31 0 21 := by rw [up_ne (by decide), up_ne (by decide), up_other (by decide), up_ne (by decide)]
      have r2 : ∀ i, i ≠ μ 31 0 22 → up (up (up (up μ 31 0 23 (μ 31 0 23 + 1)) 44 0 (μ 31 0 22) 33) 31 0 22 (μ 31 0 22 + 1)) 31 0 11 (μ 31 0 11 + 1) 44 0 i = μ 44 0 i := fun i hi => by rw [up_other (by decide), up_other (by decide), up_ne hi, up_other (by decide)]
      have t2 : up (up (up (up μ 31 0 23 (μ 31 0 23 + 1)) 44 0 (μ 31 0 22) 33) 31 0 22 (μ 31 0 22 + 1)) 31 0 11 (μ 31 0 11 + 1) 44 0 (μ 31 0 22) = 33 := by rw [up_other (by decide), up_other (by decide), up_same]
      generalize up (up (up (up μ 31 0 23 (μ 31 0 23 + 1)) 44 0 (μ 31 0 22) 33) 31 0 22 (μ 31 0 22 + 1)) 31 0 11 (μ 31 0 11 + 1) = m at km p2 w2 o2 s2 r2 t2 ⊢
      refine ihv m Q (j + 1) (km.mt hc) (by omega) (by omega) (fun i i0 i1 => ?_) ?_ (by omega) (by omega) (fun hb m3 t3 p3 => ?_) (fun hb m3 k3 p3 w3 o3 r3 => ?_)
      · by_cases e : i = μ 31 0 22
        · rw [e]; exact t2
        · rw [r2 i e]; exact h1 i (by omega) (by omega)
      · rcases h2 with e | e
        · left; omega
        · right
          rw [w2, show μ 31 0 22 + 1 - ((j + 1 : Nat) : Int) - 1 = μ 31 0 22 - j - 1 by omega, r2 _ (by omega)]; exact e
      · rw [p2] at hb p3
        have e : partF ch (v + 1) (μ 31 0 11) = (false, (partF ch v (μ 31 0 11 + 1)).2.1, []) := by
          show (if ch (μ 31 0 11) = 33 then _ else _) = _
          rw [if_pos z, if_neg (by rw [hb]; decide)]
        rw [e] at hF
        exact hF rfl m3 (km.2.tr t3) p3
      · rw [p2] at hb p3 k3
        have e : partF ch (v + 1) (μ 31 0 11) = (true, (partF ch v (μ 31 0 11 + 1)).2.1, (partF ch v (μ 31 0 11 + 1)).2.2 ++ [-1]) := by
          show (if ch (μ 31 0 11) = 33 then _ else _) = _
          rw [if_pos z, if_pos hb]
        rw [e] at hT
        refine hT rfl m3 ?_ p3 (by omega) (by omega) (fun i hi => ?_)
        · show KE f c μ m3 (((partF ch v (μ 31 0 11 + 1)).2.2 ++ [-1]).map mtok ++ rep j)
          have el : ((partF ch v (μ 31 0 11 + 1)).2.2 ++ [-1]).map mtok ++ rep j = (partF ch v (μ 31 0 11 + 1)).2.2.map mtok ++ rep (j + 1) := by
            rw [List.map_append, rep_s, List.append_assoc]; rfl
          rw [el]; exact km.tr k3
        · rw [r3 i (by omega)]; exact r2 i (by omega)
    · -- a TEST
      rw [e0] at z1 z2
      have e : partF ch (v + 1) (μ 31 0 11) = testF ch (μ 31 0 11) := by
        show (if ch (μ 31 0 11) = 33 then _ else _) = _
        rw [if_neg z1, if_neg z2]
      rw [e] at hF hT
      exact c_M_takesTest (d := d) (f := f) (c := c) hf hc hx h0 j h1 h2 h3 h4 (by omega) (fun hb m t p => B_M_takesE_100 (k1 := fun _ => hF hb m t p) (k2 := fun z => absurd rfl z)) (fun hb m k p w o r => B_M_takesE_100 (k1 := fun z => absurd z (by decide)) (k2 := fun _ => hT hb m k p w (by omega) (fun i _ => by rw [r])))
    · -- (
      rw [e0] at z1 z2 ⊢
      have l1 := hx.lt (p := μ 31 0 11) (by omega)
      rw [z2]
      have km : KE f c μ (up (up (up (up μ 31 0 23 (μ 31 0 23 + 1)) 44 0 (μ 31 0 22) 40) 31 0 22 (μ 31 0 22 + 1)) 31 0 11 (μ 31 0 11 + 1)) [] := (((KE.rf.u (by omega)).st).u (by omega)).u (by omega)
      have p2 : up (up (up (up μ 31 0 23 (μ 31 0 23 + 1)) 44 0 (μ 31 0 22) 40) 31 0 22 (μ 31 0 22 + 1)) 31 0 11 (μ 31 0 11 + 1) 31 0 11 = μ 31 0 11 + 1 := up_same
      have w2 : up (up (up (up μ 31 0 23 (μ 31 0 23 + 1)) 44 0 (μ 31 0 22) 40) 31 0 22 (μ 31 0 22 + 1)) 31 0 11 (μ 31 0 11 + 1) 31 0 22 = μ 31 0 22 + 1 := by rw [up_ne (by decide), up_same]
      have o2 : up (up (up (up μ 31 0 23 (μ 31 0 23 + 1)) 44 0 (μ 31 0 22) 40) 31 0 22 (μ 31 0 22 + 1)) 31 0 11 (μ 31 0 11 + 1) 31 0 23 = μ 31 0 23 + 1 := by rw [up_ne (by decide), up_ne (by decide), up_other (by decide), up_same]
      have s2 : up (up (up (up μ 31 0 23 (μ 31 0 23 + 1)) 44 0 (μ 31 0 22) 40) 31 0 22 (μ 31 0 22 + 1)) 31 0 11 (μ 31 0 11 + 1) 31 0 21 = μ 31 0 21 := by rw [up_ne (by decide), up_ne (by decide), up_other (by decide), up_ne (by decide)]
      have r2 : ∀ i, i ≠ μ 31 0 22 → up (up (up (up μ 31 0 23 (μ 31 0 23 + 1)) 44 0 (μ 31 0 22) 40) 31 0 22 (μ 31 0 22 + 1)) 31 0 11 (μ 31 0 11 + 1) 44 0 i = μ 44 0 i := fun i hi => by rw [up_other (by decide), up_other (by decide), up_ne hi, up_other (by decide)]
      have t2 : up (up (up (up μ 31 0 23 (μ 31 0 23 + 1)) 44 0 (μ 31 0 22) 40) 31 0 22 (μ 31 0 22 + 1)) 31 0 11 (μ 31 0 11 + 1) 44 0 (μ 31 0 22) = 40 := by rw [up_other (by decide), up_other (by decide), up_same]
      generalize up (up (up (up μ 31 0 23 (μ 31 0 23 + 1)) 44 0 (μ 31 0 22) 40) 31 0 22 (μ 31 0 22 + 1)) 31 0 11 (μ 31 0 11 + 1) = m at km p2 w2 o2 s2 r2 t2 ⊢
      have hge := eith_gd hx (w := 30) (by omega) (fun q q0 q1 => (hgv q q0 q1).mono (by omega)) (show 0 ≤ μ 31 0 11 + 1 by omega) (by omega)
      have hge1 := hge.1
      refine ei m Q (km.mt hc) (by omega) (by omega) (Or.inr (by rw [w2, show μ 31 0 22 + 1 - 1 = μ 31 0 22 by omega]; exact t2)) (by omega) (by omega) (fun hb m3 t3 p3 => ?_) (fun hb m3 k3 p3 w3 o3 r3 => ?_)
      · rw [p2] at hb p3
        have e : partF ch (v + 1) (μ 31 0 11) = (false, (eithF ch (partF ch v) (μ 31 0 11 + 1)).2.1, []) := by
          show (if ch (μ 31 0 11) = 33 then _ else _) = _
          rw [if_neg z1, if_pos z2, if_neg (by rw [hb]; decide)]
        rw [e] at hF
        exact hF rfl m3 (km.2.tr t3) p3
      · rw [p2] at hb p3 k3 ⊢
        obtain ⟨g1, g2, g3⟩ := hge.2 hb
        have n3 := k3.nn
        rw [List.length_map] at n3
        refine B_M_takesE_168 (b1 := hcc) (b2 := fun _ _ => by omega) (b3 := fun _ _ => by omega) (b4 := fun _ _ => by omega) (k1 := fun _ y => ?_) (k2 := fun _ y => ?_) (k3 := fun y => absurd y (by omega))
        · have l2 := hx.lt (p := (eithF ch (partF ch v) (μ 31 0 11 + 1)).2.1) (by omega)
          have e : partF ch (v + 1) (μ 31 0 11) = (true, (eithF ch (partF ch v) (μ 31 0 11 + 1)).2.1 + 1, (eithF ch (partF ch v) (μ 31 0 11 + 1)).2.2) := by
            show (if ch (μ 31 0 11) = 33 then _ else _) = _
            rw [if_neg z1, if_pos z2, if_pos hb, if_pos y]
          rw [e] at hT
          have k4 : KE f c m (up (up (up (up m3 42 0 c (m3 31 0 21)) 31 0 22 (m3 31 0 22 - 1)) 31 0 23 (m3 31 0 23 - 1)) 31 0 11 (m3 31 0 11 + 1)) _ := (((k3.to).u (by omega)).u (by omega)).u (by omega)
          have p4 : up (up (up (up m3 42 0 c (m3 31 0 21)) 31 0 22 (m3 31 0 22 - 1)) 31 0 23 (m3 31 0 23 - 1)) 31 0 11 (m3 31 0 11 + 1) 31 0 11 = (eithF ch (partF ch v) (μ 31 0 11 + 1)).2.1 + 1 := by rw [up_same, p3]
          have w4 : up (up (up (up m3 42 0 c (m3 31 0 21)) 31 0 22 (m3 31 0 22 - 1)) 31 0 23 (m3 31 0 23 - 1)) 31 0 11 (m3 31 0 11 + 1) 31 0 22 = μ 31 0 22 := by rw [up_ne (by decide), up_ne (by decide), up_same]; omega
          have o4 : up (up (up (up m3 42 0 c (m3 31 0 21)) 31 0 22 (m3 31 0 22 - 1)) 31 0 23 (m3 31 0 23 - 1)) 31 0 11 (m3 31 0 11 + 1) 31 0 23 = 4 - (v : Int) - 1 := by rw [up_ne (by decide), up_same]; omega
          have s4 : up (up (up (up m3 42 0 c (m3 31 0 21)) 31 0 22 (m3 31 0 22 - 1)) 31 0 23 (m3 31 0 23 - 1)) 31 0 11 (m3 31 0 11 + 1) 31 0 21 = m3 31 0 21 := by rw [up_ne (by decide), up_ne (by decide), up_ne (by decide), up_other (by decide)]
          have r4 : ∀ i, i < μ 31 0 22 → up (up (up (up m3 42 0 c (m3 31 0 21)) 31 0 22 (m3 31 0 22 - 1)) 31 0 23 (m3 31 0 23 - 1)) 31 0 11 (m3 31 0 11 + 1) 44 0 i = μ 44 0 i := fun i hi => by rw [up_other (by decide), up_other (by decide), up_other (by decide), up_other (by decide), r3 i (by omega), r2 i (by omega)]
          generalize up (up (up (up m3 42 0 c (m3 31 0 21)) 31 0 22 (m3 31 0 22 - 1)) 31 0 23 (m3 31 0 23 - 1)) 31 0 11 (m3 31 0 11 + 1) = m4 at k4 p4 w4 o4 s4 r4 ⊢
          refine Cal_le (show 2 ≤ d + 4 by omega) (c_whole (d := 0) (f := f) (c := c) hf j (fun i i0 i1 => ?_) ?_ (by omega) (by omega) (by omega) (fun m5 k5 p5 w5 o5 r5 => B_M_takesE_229 (k1 := ?_)))
          · rw [r4 i (by omega)]; exact h1 i (by omega) (by omega)
          · rw [w4]
            rcases h2 with q | q
            · left; exact q
            · by_cases qq : μ 31 0 22 = j
              · left; exact qq
              · right; rw [r4 _ (by omega)]; exact q
          · exact hT rfl m5 (km.tr (k4.tr k5)) (p5.trans p4) (by omega) (by omega) (fun i hi => by rw [r5]; exact r4 i (by omega))
        · have e : partF ch (v + 1) (μ 31 0 11) = (false, (eithF ch (partF ch v) (μ 31 0 11 + 1)).2.1, []) := by
            show (if ch (μ 31 0 11) = 33 then _ else _) = _
            rw [if_neg z1, if_pos z2, if_pos hb, if_neg y]
          rw [e] at hF
          exact hF rfl _ (km.2.tr (k3.to (x := m3 31 0 21)).2) (by rw [up_other (by decide)]; exact p3)
def XE (f c : Int) (k : Nat) (i j : Int) : Prop := XM f c k i j ∨ (i = 0 ∧ k = 41 ∧ j = c)
theorem c_M_takesE (hf : 0 ≤ f ∧ f ≤ 5) (hcc : 0 ≤ c ∧ c < 60) (hx : Txt ch n) (hc : MTx μ ch n) (h0 : 0 ≤ μ 31 0 11 ∧ μ 31 0 11 ≤ n) (h4 : 100 * f ≤ μ 31 0 21 ∧ μ 31 0 21 ≤ 100 * f + μ 31 0 11)
    (hF : (eithF ch (partF ch 4) (μ 31 0 11)).1 = false → ∀ m, Tch (XE f c) μ m → m 31 0 11 = (eithF ch (partF ch 4) (μ 31 0 11)).2.1 → Q (some (aI 0)) m)
    (hT : (eithF ch (partF ch 4) (μ 31 0 11)).1 = true → ∀ m, (m 31 0 21, m 43 0) = ((eithF ch (partF ch 4) (μ 31 0 11)).2.2.map mtok).foldl emM (μ 31 0 21, μ 43 0) → Tch (XE f c) μ m → m 31 0 11 = (eithF ch (partF ch 4) (μ 31 0 11)).2.1 → m 41 0 c = μ 31 0 21 → m 42 0 c = m 31 0 21 → Q (some (aI 1)) m) : Cal g (d + 5) m_M_takesE [aR 31 0, aI c] μ Q := by
  have hgv : ∀ p, 0 ≤ p → p ≤ n → Gd n p 40 (partF ch 4 p) := fun p p0 p1 => (part_gd hx 4 (by omega) p p0 p1).mono (by omega)
  have ei := em_of (g := g) (d := d) (c := c) hf hx (v := 4) (W := 40) (by omega) (by omega) hgv (part_pm hf hcc hx 4 (by omega))
  refine T_M_takesE (d := d) (b1 := hcc) (k1 := ?_)
  have p1 : up (up (up μ 31 0 22 0) 31 0 23 0) 41 0 c (μ 31 0 21) 31 0 11 = μ 31 0 11 := by rw [up_other (by decide), up_ne (by decide), up_ne (by decide)]
  have w1 : up (up (up μ 31 0 22 0) 31 0 23 0) 41 0 c (μ 31 0 21) 31 0 22 = 0 := by rw [up_other (by decide), up_ne (by decide), up_same]
  have o1 : up (up (up μ 31 0 22 0) 31 0 23 0) 41 0 c (μ 31 0 21) 31 0 23 = 0 := by rw [up_other (by decide), up_same]
  have s1 : up (up (up μ 31 0 22 0) 31 0 23 0) 41 0 c (μ 31 0 21) 31 0 21 = μ 31 0 21 := by rw [up_other (by decide), up_ne (by decide), up_ne (by decide)]
  have r1 : up (up (up μ 31 0 22 0) 31 0 23 0) 41 0 c (μ 31 0 21) 43 0 = μ 43 0 := by rw [up_k (by decide), up_k (by decide), up_k (by decide)]
  have c1 : MTx (up (up (up μ 31 0 22 0) 31 0 23 0) 41 0 c (μ 31 0 21)) ch n := ⟨by rw [up_other (by decide), up_ne (by decide), up_ne (by decide)]; exact hc.1, fun p p0 p1 => by rw [up_other (by decide), up_other (by decide), up_other (by decide)]; exact hc.2 p p0 p1⟩
  have f1 : up (up (up μ 31 0 22 0) 31 0 23 0) 41 0 c (μ 31 0 21) 41 0 c = μ 31 0 21 := up_same
  have t1 : Tch (XE f c) μ (up (up (up μ 31 0 22 0) 31 0 23 0) 41 0 c (μ 31 0 21)) := ((Tch.rf.up (by unfold XE XM; omega)).up (by unfold XE XM; omega)).up (by unfold XE XM; omega)
  generalize up (up (up μ 31 0 22 0) 31 0 23 0) 41 0 c (μ 31 0 21) = m at p1 w1 o1 s1 r1 c1 f1 t1 ⊢
  refine ei m Q c1 (by omega) (by omega) (Or.inl w1) (by omega) (by omega) (fun hb m3 t3 p3 => ?_) (fun hb m3 k3 p3 w3 o3 r3 => ?_)
  · rw [p1] at hb p3
    exact hF hb m3 (t1.tr (fun k i j hx' => t3 k i j (fun z => hx' (Or.inl z)))) p3
  · rw [p1] at hb p3 k3 ⊢
    refine B_M_takesE_168 (b1 := hcc) (b2 := fun y => absurd (w3.trans w1) y) (b3 := fun y => absurd (w3.trans w1) y) (b4 := fun y => absurd (w3.trans w1) y) (k1 := fun y => absurd (w3.trans w1) y) (k2 := fun y => absurd (w3.trans w1) y) (k3 := fun _ => ?_)
    have t3 := (k3.to (x := m3 31 0 21)).2
    refine hT hb _ ?_ (t1.tr (fun k i j hx' => t3 k i j (fun z => hx' (Or.inl z)))) (by rw [up_other (by decide)]; exact p3) ?_ ?_
    · rw [up_other (by decide), up_k (by decide), k3.1, s1, r1]
    · rw [t3 41 0 c (by unfold XM; omega)]; exact f1
    · rw [up_same, up_other (by decide)]
end
