/-! The reference reads an E. -/
def PM (g : aG) (d : Nat) (ch : Int → Int) (n f c : Int) (P : Int → Rs) (v : Int) : Prop := ∀ (μ : aM) (Q : aQ) (j : Nat), MTx μ ch n → (0 ≤ μ 31 0 11 ∧ μ 31 0 11 ≤ n) → μ 31 0 23 = 4 - v → (∀ i, μ 31 0 22 - j ≤ i → i < μ 31 0 22 → μ 44 0 i = 33) → (μ 31 0 22 = j ∨ μ 44 0 (μ 31 0 22 - j - 1) ≠ 33) → (j : Int) ≤ μ 31 0 22 → (100 * f ≤ μ 31 0 21 ∧ μ 31 0 21 + μ 31 0 22 ≤ 100 * f + μ 31 0 11) →
  ((P (μ 31 0 11)).1 = false → ∀ m, Tch (XM f c) μ m → m 31 0 11 = (P (μ 31 0 11)).2.1 → Q (some (aI 0)) m) →
  ((P (μ 31 0 11)).1 = true → ∀ m, KE f c μ m ((P (μ 31 0 11)).2.2.map mtok ++ rep j) → m 31 0 11 = (P (μ 31 0 11)).2.1 → m 31 0 22 = μ 31 0 22 - j → m 31 0 23 = 4 - v - j → (∀ i, i < μ 31 0 22 - j → m 44 0 i = μ 44 0 i) → Rn g (d + 4) m_M_takesE 22 [some (aR 31 0), some (aI c), some (aI 0), none] [] m Q) →
  Rn g (d + 4) m_M_takesE 22 [some (aR 31 0), some (aI c), some (aI 1), none] [] μ Q
def EM (g : aG) (d : Nat) (ch : Int → Int) (n f c : Int) (P : Int → Rs) (v : Int) : Prop := ∀ (μ : aM) (Q : aQ), MTx μ ch n → (0 ≤ μ 31 0 11 ∧ μ 31 0 11 ≤ n) → μ 31 0 23 = 4 - v → (μ 31 0 22 = 0 ∨ μ 44 0 (μ 31 0 22 - 1) = 40) → 0 ≤ μ 31 0 22 → (100 * f ≤ μ 31 0 21 ∧ μ 31 0 21 + μ 31 0 22 ≤ 100 * f + μ 31 0 11) →
  ((P (μ 31 0 11)).1 = false → ∀ m, Tch (XM f c) μ m → m 31 0 11 = (P (μ 31 0 11)).2.1 → Q (some (aI 0)) m) →
  ((P (μ 31 0 11)).1 = true → ∀ m, KE f c μ m ((P (μ 31 0 11)).2.2.map mtok) → m 31 0 11 = (P (μ 31 0 11)).2.1 → m 31 0 22 = μ 31 0 22 → m 31 0 23 = 4 - v → (∀ i, i < μ 31 0 22 → m 44 0 i = μ 44 0 i) → Rn g (d + 4) m_M_takesE 168 [some (aR 31 0), some (aI c), some (aI 0), some (aI (ch (P (μ 31 0 11)).2.1))] [] m Q) →
  Rn g (d + 4) m_M_takesE 22 [some (aR 31 0), some (aI c), some (aI 1), none] [] μ Q
section
variable {g : aG} {d : Nat} {μ m0 : aM} {Q : aQ} {x f a b k v i t c n p w o W : Int} {ch : Int → Int} {P : Int → Rs}
theorem mtok_tok {l s k : Int} (hl : 0 ≤ l) (hs : 0 ≤ s ∧ s ≤ 2) (hk : 0 ≤ k ∧ k ≤ 99) : mtok (tokF l s k) = 1000 * l + 100 * s + k := by
  unfold mtok tokF
  rw [if_neg (by omega), if_neg (by omega), if_neg (by omega)]
  omega
theorem c_M_takesTest (hf : 0 ≤ f ∧ f ≤ 5) (hc : MTx μ ch n) (hx : Txt ch n) (h0 : 0 ≤ μ 31 0 11 ∧ μ 31 0 11 ≤ n) (j : Nat) (h1 : ∀ i, μ 31 0 22 - j ≤ i → i < μ 31 0 22 → μ 44 0 i = 33) (h2 : μ 31 0 22 = j ∨ μ 44 0 (μ 31 0 22 - j - 1) ≠ 33) (h3 : (j : Int) ≤ μ 31 0 22) (h4 : 100 * f ≤ μ 31 0 21 ∧ μ 31 0 21 + μ 31 0 22 ≤ 100 * f + μ 31 0 11) (h5 : 0 ≤ μ 31 0 23 ∧ μ 31 0 23 ≤ 10)
    (hF : (testF ch (μ 31 0 11)).1 = false → ∀ m, Tch (XM f c) μ m → m 31 0 11 = (testF ch (μ 31 0 11)).2.1 → Q (some (aI 0)) m)
    (hT : (testF ch (μ 31 0 11)).1 = true → ∀ m, KE f c μ m ((testF ch (μ 31 0 11)).2.2.map mtok ++ rep j) → m 31 0 11 = (testF ch (μ 31 0 11)).2.1 → m 31 0 22 = μ 31 0 22 - j → m 31 0 23 = μ 31 0 23 - j → m 44 0 = μ 44 0 → Q (some (aI 1)) m) : Cal g (d + 4) m_M_takesTest [aR 31 0] μ Q := by
  have e0 := hc.nx hx h0.1
  have e1 := hc.nx hx (p := μ 31 0 11 + 1) (by omega)
  have hx1 := hx.1
  have hc1 := hc.1
  have pr := placeF_rng (x := ch (μ 31 0 11))
  refine T_M_takesTest (d := d) (b1 := h0.1) (b2 := by omega) (b3 := by intros; omega) (b4 := by intros; omega) (b5 := by intros; omega) (b6 := by intros; omega) (k1 := fun z1 z2 => ?_) (k2 := fun z1 z2 => ?_) (k3 := fun z1 => ?_)
  · rw [e0] at z1 ⊢
    rw [e1] at z2 ⊢
    have l1 := hx.lt (placeF_pos z1)
    have l2 := hx.lt (p := μ 31 0 11 + 1) (by omega)
    have a0 : up (up μ 31 0 11 (μ 31 0 11 + 1)) 31 0 11 (μ 31 0 11 + 1 + 1) 31 0 11 = μ 31 0 11 + 2 := by rw [up_same]; omega
    have k0 : KE f c μ (up (up μ 31 0 11 (μ 31 0 11 + 1)) 31 0 11 (μ 31 0 11 + 1 + 1)) [] := (KE.rf.u (by omega)).u (by omega)
    have w0 : up (up μ 31 0 11 (μ 31 0 11 + 1)) 31 0 11 (μ 31 0 11 + 1 + 1) 31 0 22 = μ 31 0 22 := by rw [up_ne (by decide), up_ne (by decide)]
    have o0 : up (up μ 31 0 11 (μ 31 0 11 + 1)) 31 0 11 (μ 31 0 11 + 1 + 1) 31 0 23 = μ 31 0 23 := by rw [up_ne (by decide), up_ne (by decide)]
    have r0 : up (up μ 31 0 11 (μ 31 0 11 + 1)) 31 0 11 (μ 31 0 11 + 1 + 1) 44 0 = μ 44 0 := by rw [up_k (by decide), up_k (by decide)]
    generalize up (up μ 31 0 11 (μ 31 0 11 + 1)) 31 0 11 (μ 31 0 11 + 1 + 1) = m at a0 k0 w0 o0 r0 ⊢
    have hn := num_sp hx (p := μ 31 0 11 + 2) (by omega) (by omega)
    refine c_M_takesNumber (d := d) (k0.mt hc) hx (by omega) (fun y m1 t1 p1 q1 => ?_) (fun y => ?_)
    · rw [a0] at y p1 q1
      have h3' := hn.2.1 y
      have k1 : KE f c m m1 [] := ⟨by rw [t1 31 0 21 (by omega), t1.row (k := 43) (i := 0) (fun j => by omega)]; rfl, fun k i j hx' => t1 k i j (fun z => hx' (by unfold XM; omega))⟩
      have s1 : m1 31 0 21 = μ 31 0 21 := by rw [t1 31 0 21 (by omega)]; have := k0.nn; simp at this; exact this
      have w1 : m1 31 0 22 = μ 31 0 22 := (t1 31 0 22 (by omega)).trans w0
      have o1 : m1 31 0 23 = μ 31 0 23 := (t1 31 0 23 (by omega)).trans o0
      have r1 : m1 44 0 = μ 44 0 := (t1.row (fun j => by omega)).trans r0
      have k01 := k0.tr k1
      refine B_M_takesTest_58 (b1 := by intros; omega) (b2 := by intros; omega) (b3 := by intros; omega) (b4 := by intros; omega) (b5 := by rw [q1]; intros; omega) (k1 := fun _ => ?_) (k2 := fun z => absurd z (by decide))
      rw [q1]
      refine Cal_le (show 1 ≤ d + 3 by omega) (c_emits (d := 0) (f := f) (c := c) hf (by omega) (fun k2 => B_M_takesTest_85 (k1 := ?_)))
      have s2 : up (up m1 43 0 (m1 31 0 21) (1000 * placeF (ch (μ 31 0 11)) + 100 * (ch (μ 31 0 11 + 1) - 60) + (numF ch (μ 31 0 11 + 2)).1)) 31 0 21 (m1 31 0 21 + 1) 31 0 21 = μ 31 0 21 + 1 := by rw [up_same, s1]
      have w2 : up (up m1 43 0 (m1 31 0 21) (1000 * placeF (ch (μ 31 0 11)) + 100 * (ch (μ 31 0 11 + 1) - 60) + (numF ch (μ 31 0 11 + 2)).1)) 31 0 21 (m1 31 0 21 + 1) 31 0 22 = μ 31 0 22 := by rw [up_ne (by decide), up_other (by decide), w1]
      have o2 : up (up m1 43 0 (m1 31 0 21) (1000 * placeF (ch (μ 31 0 11)) + 100 * (ch (μ 31 0 11 + 1) - 60) + (numF ch (μ 31 0 11 + 2)).1)) 31 0 21 (m1 31 0 21 + 1) 31 0 23 = μ 31 0 23 := by rw [up_ne (by decide), up_other (by decide), o1]
      have r2 : up (up m1 43 0 (m1 31 0 21) (1000 * placeF (ch (μ 31 0 11)) + 100 * (ch (μ 31 0 11 + 1) - 60) + (numF ch (μ 31 0 11 + 2)).1)) 31 0 21 (m1 31 0 21 + 1) 44 0 = μ 44 0 := by rw [up_k (by decide), up_k (by decide), r1]
      have p2 : up (up m1 43 0 (m1 31 0 21) (1000 * placeF (ch (μ 31 0 11)) + 100 * (ch (μ 31 0 11 + 1) - 60) + (numF ch (μ 31 0 11 + 2)).1)) 31 0 21 (m1 31 0 21 + 1) 31 0 11 = (numF ch (μ 31 0 11 + 2)).2 := by rw [up_ne (by decide), up_other (by decide), p1]
      generalize up (up m1 43 0 (m1 31 0 21) (1000 * placeF (ch (μ 31 0 11)) + 100 * (ch (μ 31 0 11 + 1) - 60) + (numF ch (μ 31 0 11 + 2)).1)) 31 0 21 (m1 31 0 21 + 1) = m2 at k2 s2 w2 o2 r2 p2 ⊢
      refine Cal_le (show 2 ≤ d + 3 by omega) (c_whole (d := 0) (f := f) (c := c) hf j (by rw [w2, r2]; exact h1) (by rw [w2, r2]; exact h2) (by omega) (by omega) (by omega) (fun m3 k3 p3 w3 o3 r3 => B_M_takesTest_89 (k1 := ?_)))
      have e : testF ch (μ 31 0 11) = (true, (numF ch (μ 31 0 11 + 2)).2, [tokF (placeF (ch (μ 31 0 11))) (ch (μ 31 0 11 + 1) - 60) (numF ch (μ 31 0 11 + 2)).1]) := by
        unfold testF; rw [if_neg (by omega), if_neg (fun q => q z2), if_neg (by omega)]
      rw [e] at hT
      have em : [tokF (placeF (ch (μ 31 0 11))) (ch (μ 31 0 11 + 1) - 60) (numF ch (μ 31 0 11 + 2)).1].map mtok = [1000 * placeF (ch (μ 31 0 11)) + 100 * (ch (μ 31 0 11 + 1) - 60) + (numF ch (μ 31 0 11 + 2)).1] := by
        rw [List.map_cons, mtok_tok (by omega) (by omega) (by omega)]; rfl
      exact hT rfl m3 (by show KE f c μ m3 (_ ++ rep j); rw [em]; exact k01.tr (k2.tr k3)) (p3.trans p2) (by omega) (by omega) (r3.trans r2)
    · rw [a0] at y
      refine B_M_takesTest_58 (b1 := fun z => absurd rfl z) (b2 := fun z => absurd rfl z) (b3 := fun z => absurd rfl z) (b4 := fun z => absurd rfl z) (b5 := fun z => absurd rfl z) (k1 := fun z => absurd rfl z) (k2 := fun _ => ?_)
      have e : testF ch (μ 31 0 11) = (false, μ 31 0 11 + 2, []) := by
        unfold testF; rw [if_neg (by omega), if_neg (fun q => q z2), if_pos y]
      rw [e] at hF
      exact hF rfl m k0.2 a0
  · rw [e0] at z1
    rw [e1] at z2
    have e : testF ch (μ 31 0 11) = (false, μ 31 0 11 + 1, []) := by
      unfold testF; rw [if_neg (by omega), if_pos z2]
    rw [e] at hF
    exact hF rfl _ (Tch.rf.up (by unfold XM; omega)) up_same
  · rw [e0] at z1
    have e : testF ch (μ 31 0 11) = (false, μ 31 0 11, []) := by unfold testF; rw [if_pos z1]
    rw [e] at hF
    exact hF rfl _ Tch.rf rfl
/-- a TEST stands here, or nothing -/
theorem pm_test (hf : 0 ≤ f ∧ f ≤ 5) (hx : Txt ch n) (hP : ∀ q, P q = testF ch q) (h33 : ∀ q, ch q = 33 ∨ ch q = 40 → v = 0) (hv : 0 ≤ v ∧ v ≤ 4) : PM g d ch n f c P v := by
  intro μ Q j hc h0 ho h1 h2 h3 h4 hF hT
  have e0 := hc.nx hx h0.1
  have hx1 := hx.1
  have hc1 := hc.1
  rw [hP] at hF hT
  have te : Cal g (d + 4) m_M_takesTest [aR 31 0] μ (fun rv μ' => Rn g (d + 4) m_M_takesE 100 [some (aR 31 0), some (aI c), some (aI 1), some (aI (if (μ 31 0 11) < (μ 31 0 10) then (μ 37 0 (μ 31 0 11)) else -1))] (optL rv ++ []) μ' Q) :=
    c_M_takesTest (d := d) (f := f) (c := c) hf hc hx h0 j h1 h2 h3 h4 (by omega) (fun hb m t p => B_M_takesE_100 (k1 := fun _ => hF hb m t p) (k2 := fun z => absurd rfl z)) (fun hb m k p w o r => B_M_takesE_100 (k1 := fun z => absurd z (by decide)) (k2 := fun _ => hT hb m k p w (by omega) (fun i _ => by rw [r])))
  have no : ch (μ 31 0 11) = 33 ∨ ch (μ 31 0 11) = 40 → Q (some (aI 0)) μ := fun z => by
    have e : testF ch (μ 31 0 11) = (false, μ 31 0 11, []) := by
      unfold testF; rw [if_pos (by rcases z with z | z <;> rw [z] <;> decide)]
    rw [e] at hF
    exact hF rfl μ Tch.rf rfl
  have o4 : ch (μ 31 0 11) = 33 ∨ ch (μ 31 0 11) = 40 → μ 31 0 23 = 4 := fun z => by rw [ho, h33 _ z]; rfl
  refine B_M_takesE_22 (b1 := h0.1) (b2 := by omega) (b3 := fun _ z y => absurd (o4 (Or.inl (e0.symm.trans z))) y) (b4 := fun _ z y => absurd (o4 (Or.inl (e0.symm.trans z))) y) (b5 := fun _ z y => absurd (o4 (Or.inl (e0.symm.trans z))) y) (b6 := fun _ z y => absurd (o4 (Or.inl (e0.symm.trans z))) y) (b7 := fun _ _ z y => absurd (o4 (Or.inr (e0.symm.trans z))) y) (b8 := fun _ _ z y => absurd (o4 (Or.inr (e0.symm.trans z))) y) (b9 := fun _ _ z y => absurd (o4 (Or.inr (e0.symm.trans z))) y) (b10 := fun _ _ z y => absurd (o4 (Or.inr (e0.symm.trans z))) y) (k1 := fun z => absurd z (by decide)) (k2 := fun z => absurd z (by decide)) (k3 := fun z => absurd z (by decide)) (k4 := fun _ z y => absurd (o4 (Or.inl (e0.symm.trans z))) y) (k5 := fun _ z _ => no (Or.inl (e0.symm.trans z))) (k6 := fun _ _ _ => te) (k7 := fun _ _ z y => absurd (o4 (Or.inr (e0.symm.trans z))) y) (k8 := fun _ _ z _ => no (Or.inr (e0.symm.trans z)))
theorem map_if1 {a : Bool} : (if a = true then [-2] else []).map mtok = (if a = true then [-38] else []) := by cases a <;> rfl
theorem map_if2 {o : Bool} : (if o = true then [-3] else []).map mtok = (if o = true then [-124] else []) := by cases o <;> rfl
/-- behind a PART -/
theorem lm_loop (hf : 0 ≤ f ∧ f ≤ 5) (hx : Txt ch n) (hv : 0 ≤ v ∧ v ≤ 4) (hW : 0 ≤ W) (hg : ∀ p, 0 ≤ p → p ≤ n → Gd n p W (P p)) (hP : PM g d ch n f c P v) (hw0 : 0 ≤ w) (hb : w = 0 ∨ μ 44 0 (w - 1) = 40) : ∀ (fu : Nat) (m : aM) (E : List Int) (o a : Bool), KE f c μ m (E.map mtok) → MTx m ch n → (0 ≤ m 31 0 11 ∧ m 31 0 11 ≤ n) → n - m 31 0 11 < fu → m 31 0 22 = w + b2 o + b2 a → m 31 0 23 = 4 - v → (∀ i, i < w → m 44 0 i = μ 44 0 i) → (o = true → m 44 0 w = 124) → (a = true → m 44 0 (w + b2 o) = 38) → (100 * f ≤ m 31 0 21 ∧ m 31 0 21 + m 31 0 22 ≤ 100 * f + m 31 0 11) →
    ((loopF ch P fu (m 31 0 11) (E ++ (if a = true then [-2] else [])) o).1 = false → ∀ m', Tch (XM f c) μ m' → m' 31 0 11 = (loopF ch P fu (m 31 0 11) (E ++ (if a = true then [-2] else [])) o).2.1 → Q (some (aI 0)) m') →
    ((loopF ch P fu (m 31 0 11) (E ++ (if a = true then [-2] else [])) o).1 = true → ∀ m', KE f c μ m' ((loopF ch P fu (m 31 0 11) (E ++ (if a = true then [-2] else [])) o).2.2.map mtok) → m' 31 0 11 = (loopF ch P fu (m 31 0 11) (E ++ (if a = true then [-2] else [])) o).2.1 → m' 31 0 22 = w → m' 31 0 23 = 4 - v → (∀ i, i < w → m' 44 0 i = μ 44 0 i) → Rn g (d + 4) m_M_takesE 168 [some (aR 31 0), some (aI c), some (aI 0), some (aI (ch (loopF ch P fu (m 31 0 11) (E ++ (if a = true then [-2] else [])) o).2.1))] [] m' Q) →
    Rn g (d + 4) m_M_takesE 22 [some (aR 31 0), some (aI c), some (aI 0), none] [] m Q := by
  intro fu
  induction fu with
  | zero => intro m E o a _ _ h0 hn; exact absurd hn (by omega)
  | succ fu ih =>
    intro m E o a km hc h0 hn hw ho hbase hoc hac h4 hF hT
    have e0 := hc.nx hx h0.1
    have hx1 := hx.1
    have hc1 := hc.1
    have bo := b2_01 o
    have ba := b2_01 a
    have hb' : w = 0 ∨ m 44 0 (w - 1) = 40 := by
      rcases hb with e | e
      · exact Or.inl e
      · by_cases e2 : w = 0
        · exact Or.inl e2
        · right; rw [hbase _ (by omega)]; exact e
    refine B_M_takesE_22 (b1 := h0.1) (b2 := by omega) (b3 := fun z => absurd rfl z) (b4 := fun z => absurd rfl z) (b5 := fun z => absurd rfl z) (b6 := fun z => absurd rfl z) (b7 := fun z => absurd rfl z) (b8 := fun z => absurd rfl z) (b9 := fun z => absurd rfl z) (b10 := fun z => absurd rfl z) (k1 := fun _ z => ?_) (k2 := fun _ z1 z2 => ?_) (k3 := fun _ z1 z2 => ?_) (k4 := fun z => absurd rfl z) (k5 := fun z => absurd rfl z) (k6 := fun z => absurd rfl z) (k7 := fun z => absurd rfl z) (k8 := fun z => absurd rfl z)
    · -- &
      rw [e0] at z ⊢
      have l1 := hx.lt (p := m 31 0 11) (by omega)
      rw [z]
      refine Cal_le (show 2 ≤ d + 4 by omega) (c_settle (d := 0) (f := f) (c := c) (w := w) hf o a (Or.inl rfl) hw0 ⟨hw, by omega⟩ ⟨h4.1, by omega⟩ hb' hoc hac (fun m1 k1 p1 w1 o1 r1 => ?_))
      have w1' : m1 31 0 22 = w + b2 o := by rw [w1]; cases o <;> rfl
      have k1' : KE f c m m1 (if a = true then [-38] else []) := by
        rw [if_neg (show ¬ (o = true ∧ (38 : Int) = 124) from fun q => absurd q.2 (by decide)), List.append_nil] at k1; exact k1
      have n1 := k1'.nn
      have n1' : ((if a = true then [-38] else ([] : List Int)).length : Int) = b2 a := by cases a <;> rfl
      refine B_M_takesE_127 (b1 := by omega) (b2 := by omega) (b3 := by omega) (k1 := ?_)
      have km2 : KE f c μ (up (up (up m1 44 0 (m1 31 0 22) 38) 31 0 22 (m1 31 0 22 + 1)) 31 0 11 (m1 31 0 11 + 1)) (E.map mtok ++ (if a = true then [-38] else [])) := (((km.tr k1').st).u (by omega)).u (by omega)
      have p2 : up (up (up m1 44 0 (m1 31 0 22) 38) 31 0 22 (m1 31 0 22 + 1)) 31 0 11 (m1 31 0 11 + 1) 31 0 11 = m 31 0 11 + 1 := by rw [up_same, p1]
      have w2 : up (up (up m1 44 0 (m1 31 0 22) 38) 31 0 22 (m1 31 0 22 + 1)) 31 0 11 (m1 31 0 11 + 1) 31 0 22 = w + b2 o + 1 := by rw [up_ne (by decide), up_same, w1']
      have o2 : up (up (up m1 44 0 (m1 31 0 22) 38) 31 0 22 (m1 31 0 22 + 1)) 31 0 11 (m1 31 0 11 + 1) 31 0 23 = 4 - v := by rw [up_ne (by decide), up_ne (by decide), up_other (by decide), o1, ho]
      have s2 : up (up (up m1 44 0 (m1 31 0 22) 38) 31 0 22 (m1 31 0 22 + 1)) 31 0 11 (m1 31 0 11 + 1) 31 0 21 = m 31 0 21 + b2 a := by rw [up_ne (by decide), up_ne (by decide), up_other (by decide), n1, n1']
      have r2 : ∀ i, i < w + b2 o → up (up (up m1 44 0 (m1 31 0 22) 38) 31 0 22 (m1 31 0 22 + 1)) 31 0 11 (m1 31 0 11 + 1) 44 0 i = m 44 0 i := fun i hi => by rw [up_other (by decide), up_other (by decide), up_ne (by omega), r1]
      have t2 : up (up (up m1 44 0 (m1 31 0 22) 38) 31 0 22 (m1 31 0 22 + 1)) 31 0 11 (m1 31 0 11 + 1) 44 0 (w + b2 o) = 38 := by rw [up_other (by decide), up_other (by decide), w1', up_same]
      have c2 : MTx (up (up (up m1 44 0 (m1 31 0 22) 38) 31 0 22 (m1 31 0 22 + 1)) 31 0 11 (m1 31 0 11 + 1)) ch n := by
        have q : KE f c m (up (up (up m1 44 0 (m1 31 0 22) 38) 31 0 22 (m1 31 0 22 + 1)) 31 0 11 (m1 31 0 11 + 1)) _ := ((k1'.st).u (by omega)).u (by omega)
        exact q.mt hc
      generalize up (up (up m1 44 0 (m1 31 0 22) 38) 31 0 22 (m1 31 0 22 + 1)) 31 0 11 (m1 31 0 11 + 1) = m2 at km2 p2 w2 o2 s2 r2 t2 c2 ⊢
      have hgd := hg (m 31 0 11 + 1) (by omega) (by omega)
      have hg1 := hgd.1
      refine hP m2 Q 0 c2 (by omega) o2 (fun i i0 i1 => absurd i1 (by omega)) (Or.inr (by rw [w2, show w + b2 o + 1 - ((0 : Nat) : Int) - 1 = w + b2 o by omega, t2]; decide)) (by omega) (by omega) (fun hb3 m3 t3 p3 => ?_) (fun hb3 m3 k3 p3 w3 o3 r3 => ?_)
      · rw [p2] at hb3 p3
        have e : loopF ch P (fu + 1) (m 31 0 11) (E ++ (if a = true then [-2] else [])) o = (false, (P (m 31 0 11 + 1)).2.1, []) := by
          show (if ch (m 31 0 11) = 38 then _ else _) = _
          rw [if_pos z, if_neg (by rw [hb3]; decide)]
        rw [e] at hF
        exact hF rfl m3 (km2.2.tr t3) p3
      · rw [p2] at hb3 p3 k3
        obtain ⟨g1, g2, g3⟩ := hgd.2 hb3
        have e : loopF ch P (fu + 1) (m 31 0 11) (E ++ (if a = true then [-2] else [])) o = loopF ch P fu (P (m 31 0 11 + 1)).2.1 ((E ++ (if a = true then [-2] else [])) ++ ((P (m 31 0 11 + 1)).2.2 ++ [-2])) o := by
          show (if ch (m 31 0 11) = 38 then _ else _) = _
          rw [if_pos z, if_pos hb3]
        rw [e] at hF hT
        have ee : (E ++ (if a = true then [-2] else [])) ++ ((P (m 31 0 11 + 1)).2.2 ++ [-2]) = ((E ++ (if a = true then [-2] else [])) ++ (P (m 31 0 11 + 1)).2.2) ++ (if true = true then [-2] else []) := by rw [if_pos rfl]; simp
        rw [ee] at hF hT
        have n3 := k3.nn
        have rl : (rep 0) = [] := rfl
        rw [rl, List.append_nil] at k3 n3
        rw [List.length_map] at n3
        refine ih m3 ((E ++ (if a = true then [-2] else [])) ++ (P (m 31 0 11 + 1)).2.2) o true ?_ (k3.mt c2) (by omega) (by omega) (by rw [w3, w2]; show w + b2 o + 1 - ((0 : Nat) : Int) = w + b2 o + 1; omega) (by omega) (fun i hi => ?_) (fun hoo => ?_) (fun _ => ?_) (by omega) (by rw [p3]; exact hF) (by rw [p3]; exact hT)
        · rw [List.map_append, List.map_append, map_if1]; exact km2.tr k3
        · rw [r3 i (by omega), r2 i (by omega)]; exact hbase i hi
        · have : b2 o = 1 := by rw [hoo]; rfl
          rw [r3 w (by omega), r2 w (by omega)]; exact hoc hoo
        · rw [r3 _ (by omega), t2]
    · -- neither
      rw [e0] at z1 z2 ⊢
      refine Cal_le (show 2 ≤ d + 4 by omega) (c_settle (d := 0) (f := f) (c := c) (w := w) hf o a (Or.inr rfl) hw0 ⟨hw, by omega⟩ ⟨h4.1, by omega⟩ hb' hoc hac (fun m1 k1 p1 w1 o1 r1 => ?_))
      have e : loopF ch P (fu + 1) (m 31 0 11) (E ++ (if a = true then [-2] else [])) o = (true, m 31 0 11, (E ++ (if a = true then [-2] else [])) ++ (if o = true then [-3] else [])) := by
        show (if ch (m 31 0 11) = 38 then _ else _) = _
        rw [if_neg z1, if_neg z2]
      rw [e] at hT
      refine hT rfl m1 ?_ p1 ?_ (o1.trans ho) (fun i hi => by rw [r1]; exact hbase i hi)
      · show KE f c μ m1 (((E ++ (if a = true then [-2] else [])) ++ (if o = true then [-3] else [])).map mtok)
        rw [List.map_append, List.map_append, map_if1, map_if2, List.append_assoc]
        have : (if o = true ∧ (124 : Int) = 124 then [-124] else ([] : List Int)) = (if o = true then [-124] else []) := by cases o <;> rfl
        rw [this] at k1
        exact km.tr k1
      · rw [w1, if_neg (show ¬ (o = true ∧ (124 : Int) = 38) from fun q => absurd q.2 (by decide))]; omega
    · -- |
      rw [e0] at z1 z2 ⊢
      have l1 := hx.lt (p := m 31 0 11) (by omega)
      rw [z2]
      refine Cal_le (show 2 ≤ d + 4 by omega) (c_settle (d := 0) (f := f) (c := c) (w := w) hf o a (Or.inr rfl) hw0 ⟨hw, by omega⟩ ⟨h4.1, by omega⟩ hb' hoc hac (fun m1 k1 p1 w1 o1 r1 => ?_))
      have w1' : m1 31 0 22 = w := by rw [w1, if_neg (show ¬ (o = true ∧ (124 : Int) = 38) from fun q => absurd q.2 (by decide))]; omega
      have k1' : KE f c m m1 ((if a = true then [-38] else []) ++ (if o = true then [-124] else [])) := by
        have : (if o = true ∧ (124 : Int) = 124 then [-124] else ([] : List Int)) = (if o = true then [-124] else []) := by cases o <;> rfl
        rw [this] at k1; exact k1
      have n1 := k1'.nn
      have n1' : (((if a = true then [-38] else []) ++ (if o = true then [-124] else ([] : List Int))).length : Int) = b2 a + b2 o := by cases a <;> cases o <;> rfl
      refine B_M_takesE_127 (b1 := by omega) (b2 := by omega) (b3 := by omega) (k1 := ?_)
      have km2 : KE f c μ (up (up (up m1 44 0 (m1 31 0 22) 124) 31 0 22 (m1 31 0 22 + 1)) 31 0 11 (m1 31 0 11 + 1)) (E.map mtok ++ ((if a = true then [-38] else []) ++ (if o = true then [-124] else []))) := (((km.tr k1').st).u (by omega)).u (by omega)
      have p2 : up (up (up m1 44 0 (m1 31 0 22) 124) 31 0 22 (m1 31 0 22 + 1)) 31 0 11 (m1 31 0 11 + 1) 31 0 11 = m 31 0 11 + 1 := by rw [up_same, p1]
      have w2 : up (up (up m1 44 0 (m1 31 0 22) 124) 31 0 22 (m1 31 0 22 + 1)) 31 0 11 (m1 31 0 11 + 1) 31 0 22 = w + 1 := by rw [up_ne (by decide), up_same, w1']
      have o2 : up (up (up m1 44 0 (m1 31 0 22) 124) 31 0 22 (m1 31 0 22 + 1)) 31 0 11 (m1 31 0 11 + 1) 31 0 23 = 4 - v := by rw [up_ne (by decide), up_ne (by decide), up_other (by decide), o1, ho]
      have s2 : up (up (up m1 44 0 (m1 31 0 22) 124) 31 0 22 (m1 31 0 22 + 1)) 31 0 11 (m1 31 0 11 + 1) 31 0 21 = m 31 0 21 + (b2 a + b2 o) := by rw [up_ne (by decide), up_ne (by decide), up_other (by decide), n1, n1']
      have r2 : ∀ i, i < w → up (up (up m1 44 0 (m1 31 0 22) 124) 31 0 22 (m1 31 0 22 + 1)) 31 0 11 (m1 31 0 11 + 1) 44 0 i = m 44 0 i := fun i hi => by rw [up_other (by decide), up_other (by decide), up_ne (by omega), r1]
      have t2 : up (up (up m1 44 0 (m1 31 0 22) 124) 31 0 22 (m1 31 0 22 + 1)) 31 0 11 (m1 31 0 11 + 1) 44 0 w = 124 := by rw [up_other (by decide), up_other (by decide), w1', up_same]
      have c2 : MTx (up (up (up m1 44 0 (m1 31 0 22) 124) 31 0 22 (m1 31 0 22 + 1)) 31 0 11 (m1 31 0 11 + 1)) ch n := by
        have q : KE f c m (up (up (up m1 44 0 (m1 31 0 22) 124) 31 0 22 (m1 31 0 22 + 1)) 31 0 11 (m1 31 0 11 + 1)) _ := ((k1'.st).u (by omega)).u (by omega)
        exact q.mt hc
      generalize up (up (up m1 44 0 (m1 31 0 22) 124) 31 0 22 (m1 31 0 22 + 1)) 31 0 11 (m1 31 0 11 + 1) = m2 at km2 p2 w2 o2 s2 r2 t2 c2 ⊢
      have hgd := hg (m 31 0 11 + 1) (by omega) (by omega)
      have hg1 := hgd.1
      refine hP m2 Q 0 c2 (by omega) o2 (fun i i0 i1 => absurd i1 (by omega)) (Or.inr (by rw [w2, show w + 1 - ((0 : Nat) : Int) - 1 = w by omega, t2]; decide)) (by omega) (by omega) (fun hb3 m3 t3 p3 => ?_) (fun hb3 m3 k3 p3 w3 o3 r3 => ?_)
      · rw [p2] at hb3 p3
        have e : loopF ch P (fu + 1) (m 31 0 11) (E ++ (if a = true then [-2] else [])) o = (false, (P (m 31 0 11 + 1)).2.1, []) := by
          show (if ch (m 31 0 11) = 38 then _ else _) = _
          rw [if_neg z1, if_pos z2, if_neg (by rw [hb3]; decide)]
        rw [e] at hF
        exact hF rfl m3 (km2.2.tr t3) p3
      · rw [p2] at hb3 p3 k3
        obtain ⟨g1, g2, g3⟩ := hgd.2 hb3
        have e : loopF ch P (fu + 1) (m 31 0 11) (E ++ (if a = true then [-2] else [])) o = loopF ch P fu (P (m 31 0 11 + 1)).2.1 ((E ++ (if a = true then [-2] else [])) ++ ((if o = true then [-3] else []) ++ (P (m 31 0 11 + 1)).2.2)) true := by
          show (if ch (m 31 0 11) = 38 then _ else _) = _
          rw [if_neg z1, if_pos z2, if_pos hb3]
        rw [e] at hF hT
        have ee : (E ++ (if a = true then [-2] else [])) ++ ((if o = true then [-3] else []) ++ (P (m 31 0 11 + 1)).2.2) = (((E ++ (if a = true then [-2] else [])) ++ (if o = true then [-3] else [])) ++ (P (m 31 0 11 + 1)).2.2) ++ (if false = true then [-2] else []) := by simp
        rw [ee] at hF hT
        have n3 := k3.nn
        have rl : (rep 0) = [] := rfl
        rw [rl, List.append_nil] at k3 n3
        rw [List.length_map] at n3
        refine ih m3 (((E ++ (if a = true then [-2] else [])) ++ (if o = true then [-3] else [])) ++ (P (m 31 0 11 + 1)).2.2) true false ?_ (k3.mt c2) (by omega) (by omega) (by rw [w3, w2]; show w + 1 - ((0 : Nat) : Int) = w + 1 + 0; omega) (by omega) (fun i hi => ?_) (fun _ => ?_) (fun hoo => absurd hoo (by decide)) (by omega) (by rw [p3]; exact hF) (by rw [p3]; exact hT)
        · rw [List.map_append, List.map_append, List.map_append, map_if1, map_if2, List.append_assoc (E.map mtok)]; exact km2.tr k3
        · rw [r3 i (by omega), r2 i (by omega)]; exact hbase i hi
        · rw [r3 w (by omega), t2]
theorem em_of (hf : 0 ≤ f ∧ f ≤ 5) (hx : Txt ch n) (hv : 0 ≤ v ∧ v ≤ 4) (hW : 0 ≤ W) (hg : ∀ p, 0 ≤ p → p ≤ n → Gd n p W (P p)) (hP : PM g d ch n f c P v) : EM g d ch n f c (eithF ch P) v := by
  intro μ Q hc h0 ho hb hw0 h4 hF hT
  have hx1 := hx.1
  have hgd := hg (μ 31 0 11) h0.1 h0.2
  have hg1 := hgd.1
  refine hP μ Q 0 hc h0 ho (fun i i0 i1 => absurd i1 (by omega)) (by rcases hb with e | e; exact Or.inl e; exact Or.inr (by rw [show μ 31 0 22 - ((0 : Nat) : Int) - 1 = μ 31 0 22 - 1 by omega, e]; decide)) (by omega) h4 (fun hb3 m3 t3 p3 => ?_) (fun hb3 m3 k3 p3 w3 o3 r3 => ?_)
  · have e : eithF ch P (μ 31 0 11) = (false, (P (μ 31 0 11)).2.1, []) := by unfold eithF; rw [if_neg (by rw [hb3]; decide)]
    rw [e] at hF
    exact hF rfl m3 t3 p3
  · obtain ⟨g1, g2, g3⟩ := hgd.2 hb3
    have e : eithF ch P (μ 31 0 11) = loopF ch P 100 (P (μ 31 0 11)).2.1 ((P (μ 31 0 11)).2.2 ++ (if false = true then [-2] else [])) false := by unfold eithF; rw [if_pos hb3]; simp
    rw [e] at hF hT
    have n3 := k3.nn
    have rl : (rep 0) = [] := rfl
    rw [rl, List.append_nil] at k3 n3
    rw [List.length_map] at n3
    exact lm_loop (μ := μ) (w := μ 31 0 22) hf hx hv hW hg hP hw0 hb 100 m3 (P (μ 31 0 11)).2.2 false false k3 (k3.mt hc) (by omega) (by omega) (by rw [w3]; show μ 31 0 22 - ((0 : Nat) : Int) = μ 31 0 22 + 0 + 0; omega) (by omega) (fun i hi => r3 i (by omega)) (fun z => absurd z (by decide)) (fun z => absurd z (by decide)) (by omega) (by rw [p3]; exact hF) (by rw [p3]; exact hT)
end
