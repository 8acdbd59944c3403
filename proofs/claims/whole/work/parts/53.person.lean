/-! Calls that change something: the PEOPLE. -/
section
variable {g : aG} {μ : aM} {p w x n a b r k v u o : Int}
theorem bey.putO {V : Vw} {p x : Int} (h : bey V) : bey (putO V p x) := h
theorem bey.putU {V : Vw} {p x : Int} (h : bey V) : bey (putU V p x) := h
theorem bey.putA {V : Vw} {p x : Int} (h : bey V) (h0 : 0 ≤ vn V) (hp : p < vn V) : bey (putA V p x) := fun i i0 i1 => by
  have h1 : vn V ≤ i := i0
  refine ⟨?_, (h i i0 i1).2⟩
  show t6 (pu (va V) p x) i = 0
  rw [t6_in (by omega) i1]
  unfold pu; rw [if_neg (by omega)]; exact (h i i0 i1).1
theorem vC_k0 {μ : aM} {k : Nat} {i j x : Int} (h : k < 2 ∨ 8 < k) {a : Int} : vC (up μ k i j x) a = vC μ a := by
  unfold vC
  rw [up_k (by omega), up_k (by omega), up_k (by omega), up_k (by omega), up_k (by omega), up_k (by omega), up_k (by omega)]
theorem j_off (hI : Inv μ) : Pair g 40 m_P_off m_M_off [aI p, aI x] μ := by
  intro Q h
  have hn := hI_n hI
  have hn1 := hn.1
  refine T_P_off (d := 38) (k1 := fun z1 z2 => h _ _ (fun Q' h' => ?_)) (k2 := fun z1 z2 => h _ _ (fun Q' h' => ?_)) (k3 := fun z1 => h _ _ (fun Q' h' => ?_))
  · have e := hI_o hI (i := p) z1.1 (by omega)
    have f1 : up μ 6 0 p x 31 0 0 = μ 31 0 0 := up_other (by decide)
    have f2 : up μ 6 0 p x 35 0 p = μ 6 0 p := (up_other (by decide)).trans e.1
    refine T_M_off (d := 37) (b1 := by rw [f1]; omega) (b2 := fun _ _ => by omega) (b3 := fun _ _ => by omega) (k1 := fun _ _ => ?_) (k2 := fun _ z => absurd z2 z) (k3 := fun z => absurd (by rw [f1]; omega) z)
    rw [f2]
    refine h' _ (hI.go (X := fun k i j => i = 0 ∧ (k = 6 ∨ k = 35)) (Tch.rf.up (by omega) |>.up (by omega)) (pe := Or.inl ?_))
    unfold PE
    rw [vM_putO, vC_k0 (by omega), vC_putO, show vM (up μ 6 0 p x) = vM μ from rfl, up_other (by decide), up_other (by decide), hI.pe.1]
    exact ⟨rfl, putO_ok hI.pe.2.1 z2, hI.pe.2.2.1.putO, hI.pe.2.2.2⟩
  · exact T_M_off (d := 37) (k1 := fun _ z => absurd z z2) (k2 := fun _ _ => h' _ hI) (k3 := fun z => absurd (by omega) z)
  · exact T_M_off (d := 37) (k1 := fun z _ => absurd z (by omega)) (k2 := fun z _ => absurd z (by omega)) (k3 := fun _ => h' _ hI)
theorem j_due (hI : Inv μ) : Pair g 40 m_P_due m_M_due [aI p, aI x] μ := by
  intro Q h
  have hn := hI_n hI
  have hn1 := hn.1
  refine T_P_due (d := 38) (k1 := fun z1 z2 => h _ _ (fun Q' h' => ?_)) (k2 := fun z1 z2 => h _ _ (fun Q' h' => ?_)) (k3 := fun z1 => h _ _ (fun Q' h' => ?_))
  · have e := hI_u hI (i := p) z1.1 (by omega)
    have f1 : up μ 5 0 p x 31 0 0 = μ 31 0 0 := up_other (by decide)
    have f2 : up μ 5 0 p x 34 0 p = μ 5 0 p := (up_other (by decide)).trans e.1
    refine T_M_due (d := 37) (b1 := by rw [f1]; omega) (b2 := fun _ _ => by omega) (b3 := fun _ _ => by omega) (k1 := fun _ _ => ?_) (k2 := fun _ z => absurd z2 z) (k3 := fun z => absurd (by rw [f1]; omega) z)
    rw [f2]
    refine h' _ (hI.go (X := fun k i j => i = 0 ∧ (k = 5 ∨ k = 34)) (Tch.rf.up (by omega) |>.up (by omega)) (pe := Or.inl ?_))
    unfold PE
    rw [vM_putU, vC_k0 (by omega), vC_putU, show vM (up μ 5 0 p x) = vM μ from rfl, up_other (by decide), up_other (by decide), hI.pe.1]
    exact ⟨rfl, putU_ok hI.pe.2.1 z2, hI.pe.2.2.1.putU, hI.pe.2.2.2⟩
  · exact T_M_due (d := 37) (k1 := fun _ z => absurd z z2) (k2 := fun _ _ => h' _ hI) (k3 := fun z => absurd (by omega) z)
  · exact T_M_due (d := 37) (k1 := fun z _ => absurd z (by omega)) (k2 := fun z _ => absurd z (by omega)) (k3 := fun _ => h' _ hI)
theorem hI_a {μ : aM} (hI : Inv μ) {i : Int} (h0 : 0 ≤ i) (h1 : i < 6) : bitF (μ 31 0 2) i = μ 7 0 i ∧ (μ 7 0 i = 0 ∨ μ 7 0 i = 1) := by
  have e : t6 (bitF (μ 31 0 2)) i = t6 (μ 7 0) i := (V_at hI.pe.1).2.2.2.2.2.2.1 i
  have h : t6 (μ 7 0) i = 0 ∨ t6 (μ 7 0) i = 1 := (hI.pe.2.1.2.2 i h0 h1).2.2.2.2.1
  rw [t6_in h0 h1] at e h; rw [t6_in h0 h1] at e
  exact ⟨e, h⟩
theorem j_away (hI : Inv μ) (hx : x = 0 ∨ x = 1) : Pair g 40 m_P_away m_M_away [aI p, aI x] μ := by
  intro Q h
  have hn := hI_n hI
  have hn1 := hn.1
  have f1 : up μ 7 0 p x 31 0 0 = μ 31 0 0 := up_other (by decide)
  have f2 : up μ 7 0 p x 31 0 2 = μ 31 0 2 := up_other (by decide)
  have key : (0 ≤ p ∧ p < μ 2 0 0) → ∀ Q' : aQ, (∀ μ2, Inv μ2 → Q' (some (aI (μ 7 0 p))) μ2) → Cal g 40 m_M_away [aR 31 0, aI p, aI x] (up μ 7 0 p x) Q' := fun z1 Q' h' => by
    have e := hI_a hI (i := p) z1.1 (by omega)
    have gk : Cal g (37 + 2) m_M_goes [aR 31 0, aI p, aI x] (up μ 7 0 p x) (fun rv μ' => rv = none ∧ Inv μ') := by
      refine c_M_goes (d := 38) (by rw [f2]; exact hI_g hI) (by omega) hx (fun s hs hv => ⟨rfl, hI.go (X := fun k i j => i = 0 ∧ (k = 7 ∨ (k = 31 ∧ j = 2))) (Tch.rf.up (by omega) |>.up (by omega)) (pe := Or.inl ?_)⟩)
      unfold PE
      rw [hv, vC_k0 (by omega), vC_putA, show vM (up μ 7 0 p x) = vM μ from rfl, up_same, hI.pe.1]
      exact ⟨rfl, putA_ok hI.pe.2.1 hx, hI.pe.2.2.1.putA (show 0 ≤ μ 2 0 0 from hn.2.1) (show p < μ 2 0 0 from z1.2), hs⟩
    refine T_M_away (d := 37) (b1 := by rw [f1]; omega) (k1 := fun _ z => ?_) (k2 := fun _ z => ?_) (k3 := fun z => absurd (by rw [f1]; omega) z)
    · refine Cal_mono gk (fun rv μ' hr => ?_)
      rw [hr.1]
      refine B_M_away_34 (k1 := ?_)
      have : μ 7 0 p = 0 := by rw [← e.1]; unfold bitF; rw [f2] at z; exact bI_f z
      rw [← this]; exact h' _ hr.2
    · refine Cal_mono gk (fun rv μ' hr => ?_)
      rw [hr.1]
      refine B_M_away_34 (k1 := ?_)
      have : μ 7 0 p = 1 := by rw [← e.1]; unfold bitF; rw [f2] at z; exact bI_t z
      rw [← this]; exact h' _ hr.2
  refine T_P_away (d := 38) (k1 := fun z1 z2 => h _ _ (by have := key z1; rw [z2] at this; exact this)) (k2 := fun z1 z2 => h _ _ ?_) (k3 := fun z1 => h _ _ (fun Q' h' => ?_))
  · have e := hI_a hI (i := p) z1.1 (by omega)
    have := key z1
    rw [show μ 7 0 p = 1 from by rcases e.2 with e | e; exact absurd e z2; exact e] at this; exact this
  · exact T_M_away (d := 37) (k1 := fun z _ => absurd z (by omega)) (k2 := fun z _ => absurd z (by omega)) (k3 := fun _ => h' _ hI)
theorem hI_r {μ : aM} (hI : Inv μ) {i : Int} (h0 : 0 ≤ i) (h1 : i < 24) : μ 36 0 i = μ 8 0 i := by
  have e : t24 (μ 36 0) i = t24 (μ 8 0) i := (V_at hI.pe.1).2.2.2.2.2.2.2 i
  rw [t24_in h0 h1, t24_in h0 h1] at e
  exact e
def setR (V : Vw) (r : Int → Int) : Vw := (V.1, V.2.1, V.2.2.1, V.2.2.2.1, V.2.2.2.2.1, V.2.2.2.2.2.1, V.2.2.2.2.2.2.1, r)
def putR (V : Vw) (p x : Int) : Vw := setR V (t24 (pu (vr V) p x))
theorem t24_t24 {f : Int → Int} : t24 (t24 f) = t24 f := t24_ext fun i h0 h6 => t24_in h0 h6
theorem t24_pu {f f' : Int → Int} {p x : Int} (h : t24 f = t24 f') : t24 (pu f p x) = t24 (pu f' p x) := t24_ext fun i h0 h6 => by
  unfold pu; split
  · rfl
  · exact t24_at h h0 h6
theorem vC_putR {μ : aM} {a p x : Int} : vC (up μ 8 a p x) a = putR (vC μ a) p x := by
  unfold vC putR setR
  rw [up_row, up_k (by decide), up_k (by decide), up_k (by decide), up_k (by decide), up_k (by decide), up_k (by decide)]
  show _ = (_, _, _, _, _, _, _, t24 (pu (t24 (μ 8 a)) p x))
  rw [t24_pu t24_t24]
theorem vM_putR {μ : aM} {p x : Int} : vM (up μ 36 0 p x) = putR (vM μ) p x := by
  unfold vM putR setR
  rw [up_row, up_k (by decide), up_k (by decide), up_k (by decide), up_k (by decide), up_k (by decide)]
  show _ = (_, _, _, _, _, _, _, t24 (pu (t24 (μ 36 0)) p x))
  rw [t24_pu t24_t24]
theorem putR_ok {B p x : Int} {V : Vw} (hV : VOk B V) (hx : 0 ≤ x ∧ x ≤ 9) : VOk B (putR V p x) := by
  refine ⟨hV.1, hV.2.1, fun i h0 h6 => ?_⟩
  obtain ⟨h1, h2, h3, h4, h5, h7⟩ := hV.2.2 i h0 h6
  refine ⟨h1, h2, h3, h4, h5, fun j j0 j4 => ?_⟩
  show 0 ≤ t24 (pu (vr V) p x) (4 * i + j) ∧ t24 (pu (vr V) p x) (4 * i + j) ≤ 9
  rw [t24_in (by omega) (by omega)]
  exact pu_rng (h7 j j0 j4) hx
theorem bey.putR {V : Vw} {p x : Int} (h : bey V) (h0 : 0 ≤ vn V) (hp : p < 4 * vn V) : bey (putR V p x) := fun i i0 i1 => by
  have h1 : vn V ≤ i := i0
  refine ⟨(h i i0 i1).1, fun j j0 j1 => ?_⟩
  show t24 (pu (vr V) p x) (4 * i + j) = 0
  rw [t24_in (by omega) (by omega)]
  unfold pu; rw [if_neg (by omega)]; exact (h i i0 i1).2 j j0 j1
theorem j_row (hI : Inv μ) : Pair g 40 m_P_row m_M_row [aI p, aI w, aI x] μ := by
  intro Q h
  have hn := hI_n hI
  have hn1 := hn.1
  have hno : ∀ v, (∀ Q' : aQ, Q' (some v) μ → Cal g 40 m_M_row [aR 31 0, aI p, aI w, aI x] μ Q') → ∀ Q' : aQ, (∀ μ2, Inv μ2 → Q' (some v) μ2) → Cal g 40 m_M_row [aR 31 0, aI p, aI w, aI x] μ Q' := fun v hk Q' h' => hk Q' (h' μ hI)
  refine T_P_row (d := 38) (k1 := fun z1 => h _ _ (hno _ fun Q' h' => ?_)) (k2 := fun z1 z2 => h _ _ (hno _ fun Q' h' => ?_)) (k3 := fun z1 z2 z3 z4 => h _ _ (hno _ fun Q' h' => ?_)) (k4 := fun z1 z2 z3 z4 z5 z6 => h _ _ (fun Q' h' => ?_)) (k5 := fun z1 z2 z3 z4 z5 z6 => h _ _ (hno _ fun Q' h' => ?_)) (k6 := fun z1 z2 z3 z4 z5 => h _ _ (hno _ fun Q' h' => ?_)) (k7 := fun z1 z2 z3 => h _ _ (hno _ fun Q' h' => ?_))
  · exact T_M_row (d := 37) (k1 := fun _ => h') (k2 := fun z _ _ _ => absurd z (by omega)) (k3 := fun z _ _ _ => absurd z (by omega)) (k4 := fun z _ _ => absurd z (by omega)) (k5 := fun z _ => absurd z (by omega))
  · exact T_M_row (d := 37) (k1 := fun _ => h') (k2 := fun _ z _ _ => absurd z (by omega)) (k3 := fun _ z _ _ => absurd z (by omega)) (k4 := fun _ z _ => absurd z (by omega)) (k5 := fun _ _ => h')
  · exact T_M_row (d := 37) (k1 := fun z => absurd (by omega) z) (k2 := fun _ _ z _ => absurd z (by omega)) (k3 := fun _ _ z _ => absurd z (by omega)) (k4 := fun _ _ _ => h') (k5 := fun _ z => absurd (by omega) z)
  · have ek := hI_k hI (i := p) z1.1 (by omega)
    have e := hI_r hI (i := 4 * p + w) (by omega) (by omega)
    have f1 : up μ 8 0 (4 * p + w) x 31 0 0 = μ 31 0 0 := up_other (by decide)
    have f2 : up μ 8 0 (4 * p + w) x 36 0 (4 * p + w) = μ 8 0 (4 * p + w) := (up_other (by decide)).trans e
    have f3 : up μ 8 0 (4 * p + w) x 32 0 p = μ 3 0 p := (up_other (by decide)).trans ek.1
    refine T_M_row (d := 37) (b1 := by rw [f1]; omega) (k1 := fun z => absurd (by rw [f1]; omega) z) (k2 := fun _ _ _ _ => ?_) (k3 := fun _ _ _ z => absurd z (by rw [f3]; omega)) (k4 := fun _ _ z => absurd (by omega) z) (k5 := fun _ z => absurd (by omega) z)
    rw [f2]
    refine h' _ (hI.go (X := fun k i j => i = 0 ∧ (k = 8 ∨ k = 36)) (Tch.rf.up (by omega) |>.up (by omega)) (pe := Or.inl ?_))
    unfold PE
    rw [vM_putR, vC_k0 (by omega), vC_putR, show vM (up μ 8 0 (4 * p + w) x) = vM μ from rfl, up_other (by decide), up_other (by decide), hI.pe.1]
    exact ⟨rfl, putR_ok hI.pe.2.1 ⟨z4, z5⟩, hI.pe.2.2.1.putR (show 0 ≤ μ 2 0 0 from hn.2.1) (show 4 * p + w < 4 * μ 2 0 0 by omega), hI.pe.2.2.2⟩
  · have ek := hI_k hI (i := p) z1.1 (by omega)
    exact T_M_row (d := 37) (k1 := fun z => absurd (by omega) z) (k2 := fun _ _ _ z => absurd z (by omega)) (k3 := fun _ _ _ _ => h') (k4 := fun _ _ z => absurd (by omega) z) (k5 := fun _ z => absurd (by omega) z)
  · exact T_M_row (d := 37) (k1 := fun z => absurd (by omega) z) (k2 := fun _ _ z _ => absurd z (by omega)) (k3 := fun _ _ z _ => absurd z (by omega)) (k4 := fun _ _ _ => h') (k5 := fun _ z => absurd (by omega) z)
  · exact T_M_row (d := 37) (k1 := fun _ => h') (k2 := fun _ z _ _ => absurd z (by omega)) (k3 := fun _ z _ _ => absurd z (by omega)) (k4 := fun _ z _ => absurd z (by omega)) (k5 := fun _ _ => h')
end
