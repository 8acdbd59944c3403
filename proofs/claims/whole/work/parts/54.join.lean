/-! One more of the PEOPLE. -/
def joinV (V : Vw) (k v u o : Int) : Vw := (vn V + 1, vd V, t6 (pu (vk V) (vn V) k), t6 (pu (vv V) (vn V) v), t6 (pu (vu V) (vn V) u), t6 (pu (vo V) (vn V) o), va V, vr V)
section
variable {g : aG} {μ : aM} {p w x n a b r k v u o : Int}
theorem joinV_ok {B : Int} {V : Vw} (hV : VOk B V) (hn : vn V < 6) (hk : 0 ≤ k ∧ k ≤ 6) (hv : 0 ≤ v ∧ v ≤ 9) (hu : 0 ≤ u ∧ u ≤ 99) (ho : -999 ≤ o ∧ o ≤ 999) : VOk B (joinV V k v u o) := by
  have h0 := hV.1.1
  refine ⟨⟨show 0 ≤ vn V + 1 by omega, show vn V + 1 ≤ 6 by omega⟩, hV.2.1, fun i h0 h6 => ?_⟩
  obtain ⟨h1, h2, h3, h4, h5, h7⟩ := hV.2.2 i h0 h6
  refine ⟨?_, ?_, ?_, ?_, h5, h7⟩
  · show 0 ≤ t6 (pu (vk V) (vn V) k) i ∧ t6 (pu (vk V) (vn V) k) i ≤ 6
    rw [t6_in h0 h6]; exact pu_rng h1 hk
  · show 0 ≤ t6 (pu (vv V) (vn V) v) i ∧ t6 (pu (vv V) (vn V) v) i ≤ 9
    rw [t6_in h0 h6]; exact pu_rng h2 hv
  · show 0 ≤ t6 (pu (vu V) (vn V) u) i ∧ t6 (pu (vu V) (vn V) u) i ≤ 99
    rw [t6_in h0 h6]; exact pu_rng h3 hu
  · show -999 ≤ t6 (pu (vo V) (vn V) o) i ∧ t6 (pu (vo V) (vn V) o) i ≤ 999
    rw [t6_in h0 h6]; exact pu_rng h4 ho
theorem bey.join {V : Vw} (h : bey V) : bey (joinV V k v u o) := fun i i0 i1 => h i (show vn V ≤ i by have : vn V + 1 ≤ i := i0; omega) i1
theorem vC_join (hn : n = μ 2 0 0) : vC (up (up (up (up (up μ 3 0 n k) 4 0 n v) 5 0 n u) 6 0 n o) 2 0 0 (n + 1)) 0 = joinV (vC μ 0) k v u o := by
  have r1 : up (up (up (up (up μ 3 0 n k) 4 0 n v) 5 0 n u) 6 0 n o) 2 0 0 (n + 1) 2 0 1 = μ 2 0 1 := by rw [up_ne (by decide), up_other (by decide), up_other (by decide), up_other (by decide), up_other (by decide)]
  have r3 : up (up (up (up (up μ 3 0 n k) 4 0 n v) 5 0 n u) 6 0 n o) 2 0 0 (n + 1) 3 0 = pu (μ 3 0) n k := by rw [up_k (by decide), up_k (by decide), up_k (by decide), up_k (by decide), up_row]
  have r4 : up (up (up (up (up μ 3 0 n k) 4 0 n v) 5 0 n u) 6 0 n o) 2 0 0 (n + 1) 4 0 = pu (μ 4 0) n v := by rw [up_k (by decide), up_k (by decide), up_k (by decide), up_row, up_k (by decide)]
  have r5 : up (up (up (up (up μ 3 0 n k) 4 0 n v) 5 0 n u) 6 0 n o) 2 0 0 (n + 1) 5 0 = pu (μ 5 0) n u := by rw [up_k (by decide), up_k (by decide), up_row, up_k (by decide), up_k (by decide)]
  have r6 : up (up (up (up (up μ 3 0 n k) 4 0 n v) 5 0 n u) 6 0 n o) 2 0 0 (n + 1) 6 0 = pu (μ 6 0) n o := by rw [up_k (by decide), up_row, up_k (by decide), up_k (by decide), up_k (by decide)]
  have r7 : up (up (up (up (up μ 3 0 n k) 4 0 n v) 5 0 n u) 6 0 n o) 2 0 0 (n + 1) 7 0 = μ 7 0 := by rw [up_k (by decide), up_k (by decide), up_k (by decide), up_k (by decide), up_k (by decide)]
  have r8 : up (up (up (up (up μ 3 0 n k) 4 0 n v) 5 0 n u) 6 0 n o) 2 0 0 (n + 1) 8 0 = μ 8 0 := by rw [up_k (by decide), up_k (by decide), up_k (by decide), up_k (by decide), up_k (by decide)]
  unfold vC
  rw [up_same, r1, r3, r4, r5, r6, r7, r8, hn]
  show _ = (μ 2 0 0 + 1, μ 2 0 1, t6 (pu (t6 (μ 3 0)) (μ 2 0 0) k), t6 (pu (t6 (μ 4 0)) (μ 2 0 0) v), t6 (pu (t6 (μ 5 0)) (μ 2 0 0) u), t6 (pu (t6 (μ 6 0)) (μ 2 0 0) o), t6 (μ 7 0), t24 (μ 8 0))
  rw [t6_pu (f := t6 (μ 3 0)) t6_t6, t6_pu (f := t6 (μ 4 0)) t6_t6, t6_pu (f := t6 (μ 5 0)) t6_t6, t6_pu (f := t6 (μ 6 0)) t6_t6]
theorem vM_join {m : aM} {s : Int} (hn : n = μ 31 0 0) (h0 : m 31 0 0 = n + 1) (h1 : m 31 0 1 = μ 31 0 1) (h2 : m 31 0 2 = s) (hs : t6 (bitF s) = t6 (bitF (μ 31 0 2))) (hk : m 32 0 = pu (μ 32 0) n k) (hv : m 33 0 = pu (μ 33 0) n v) (hu : m 34 0 = pu (μ 34 0) n u) (ho : m 35 0 = pu (μ 35 0) n o) (hr : t24 (m 36 0) = t24 (μ 36 0)) : vM m = joinV (vM μ) k v u o := by
  unfold vM
  rw [h0, h1, h2, hs, hk, hv, hu, ho, hr, hn]
  show _ = (μ 31 0 0 + 1, μ 31 0 1, t6 (pu (t6 (μ 32 0)) (μ 31 0 0) k), t6 (pu (t6 (μ 33 0)) (μ 31 0 0) v), t6 (pu (t6 (μ 34 0)) (μ 31 0 0) u), t6 (pu (t6 (μ 35 0)) (μ 31 0 0) o), t6 (bitF (μ 31 0 2)), t24 (μ 36 0))
  rw [t6_pu (f := t6 (μ 32 0)) t6_t6, t6_pu (f := t6 (μ 33 0)) t6_t6, t6_pu (f := t6 (μ 34 0)) t6_t6, t6_pu (f := t6 (μ 35 0)) t6_t6]
theorem goes_off {s p : Int} (hs : gOk s) (h0 : 0 ≤ p) (h6 : p < 6) : gOk (b_and s (b_xor (b_shl 1 p) (-1))) ∧ ∀ i, 0 ≤ i → i < 6 → bitF (b_and s (b_xor (b_shl 1 p) (-1))) i = if i = p then 0 else bitF s i := by
  have h := goes_tab
  obtain ⟨s, rfl⟩ : ∃ k : Nat, s = (k : Int) := ⟨s.toNat, by have := hs.1; omega⟩
  obtain ⟨p, rfl⟩ : ∃ k : Nat, p = (k : Int) := ⟨p.toNat, by omega⟩
  have hs1 := hs.2
  refine ⟨(h ⟨s, by omega⟩ ⟨p, by omega⟩ ⟨0, by omega⟩).2.1, fun i i0 i1 => ?_⟩
  obtain ⟨i, rfl⟩ : ∃ k : Nat, i = (k : Int) := ⟨i.toNat, by omega⟩
  have := (h ⟨s, by omega⟩ ⟨p, by omega⟩ ⟨i, by omega⟩).2.2
  refine this.trans ?_
  by_cases e : i = p
  · rw [if_pos e, if_pos (by omega)]
  · rw [if_neg e, if_neg (by omega)]
theorem j_person (hI : Inv μ) : Pair g 40 m_P_person m_M_person [aI k, aI v, aI u, aI o] μ := by
  intro Q h
  have hn := hI_n hI
  have hn1 := hn.1
  have hno : ∀ r, (∀ Q' : aQ, Q' (some r) μ → Cal g 40 m_M_person [aR 31 0, aI k, aI v, aI u, aI o] μ Q') → ∀ Q' : aQ, (∀ μ2, Inv μ2 → Q' (some r) μ2) → Cal g 40 m_M_person [aR 31 0, aI k, aI v, aI u, aI o] μ Q' := fun v hk Q' h' => hk Q' (h' μ hI)
  refine T_P_person (d := 38) (k1 := fun z1 => h _ _ (hno _ fun Q' h' => ?_)) (k2 := fun z1 z2 z3 => h _ _ (hno _ fun Q' h' => ?_)) (k3 := fun z1 z2 z3 z4 => h _ _ (hno _ fun Q' h' => ?_)) (k4 := fun z1 z2 z3 z4 z5 => h _ _ (hno _ fun Q' h' => ?_)) (k5 := fun z1 z2 z3 z4 z5 z6 z7 => ?_) (k6 := fun z1 z2 z3 z4 z5 z6 z7 => h _ _ (hno _ fun Q' h' => ?_)) (k7 := fun z1 z2 z3 z4 z5 z6 => h _ _ (hno _ fun Q' h' => ?_)) (k8 := fun z1 z2 => h _ _ (hno _ fun Q' h' => ?_))
  · exact T_M_person (d := 37) (k1 := fun z => absurd z (by omega)) (k2 := fun z => absurd z (by omega)) (k3 := fun z => absurd z (by omega)) (k4 := fun z => absurd z (by omega)) (k5 := fun z => absurd z (by omega)) (k6 := fun _ => h')
  · exact T_M_person (d := 37) (k1 := fun _ _ => h') (k2 := fun _ _ _ => h') (k3 := fun _ z => absurd z (by omega)) (k4 := fun _ z => absurd z (by omega)) (k5 := fun _ _ _ _ => h') (k6 := fun z => absurd (by omega) z)
  · exact T_M_person (d := 37) (k1 := fun _ _ => h') (k2 := fun _ _ _ => h') (k3 := fun _ z => absurd z (by omega)) (k4 := fun _ z => absurd z (by omega)) (k5 := fun _ _ _ _ => h') (k6 := fun z => absurd (by omega) z)
  · exact T_M_person (d := 37) (k1 := fun _ _ => h') (k2 := fun _ _ _ => h') (k3 := fun _ _ z => absurd z z5) (k4 := fun _ _ z => absurd z z5) (k5 := fun _ _ _ _ => h') (k6 := fun z => absurd (by omega) z)
  · refine T_Cr_join (d := 38) (b1 := by omega) (b2 := by omega) (b3 := by omega) (b4 := by omega) (b5 := by omega) (k1 := B_P_person_73 (k1 := h _ _ (fun Q' h' => ?_)))
    have f0 : up (up (up (up (up μ 3 0 (μ 2 0 0) k) 4 0 (μ 2 0 0) v) 5 0 (μ 2 0 0) u) 6 0 (μ 2 0 0) o) 2 0 0 ((μ 2 0 0) + 1) 31 = μ 31 := by rw [up_k (by decide), up_k (by decide), up_k (by decide), up_k (by decide), up_k (by decide)]
    have f2 : up (up (up (up (up μ 3 0 (μ 2 0 0) k) 4 0 (μ 2 0 0) v) 5 0 (μ 2 0 0) u) 6 0 (μ 2 0 0) o) 2 0 0 ((μ 2 0 0) + 1) 32 = μ 32 := by rw [up_k (by decide), up_k (by decide), up_k (by decide), up_k (by decide), up_k (by decide)]
    have f3 : up (up (up (up (up μ 3 0 (μ 2 0 0) k) 4 0 (μ 2 0 0) v) 5 0 (μ 2 0 0) u) 6 0 (μ 2 0 0) o) 2 0 0 ((μ 2 0 0) + 1) 33 = μ 33 := by rw [up_k (by decide), up_k (by decide), up_k (by decide), up_k (by decide), up_k (by decide)]
    have f4 : up (up (up (up (up μ 3 0 (μ 2 0 0) k) 4 0 (μ 2 0 0) v) 5 0 (μ 2 0 0) u) 6 0 (μ 2 0 0) o) 2 0 0 ((μ 2 0 0) + 1) 34 = μ 34 := by rw [up_k (by decide), up_k (by decide), up_k (by decide), up_k (by decide), up_k (by decide)]
    have f5 : up (up (up (up (up μ 3 0 (μ 2 0 0) k) 4 0 (μ 2 0 0) v) 5 0 (μ 2 0 0) u) 6 0 (μ 2 0 0) o) 2 0 0 ((μ 2 0 0) + 1) 35 = μ 35 := by rw [up_k (by decide), up_k (by decide), up_k (by decide), up_k (by decide), up_k (by decide)]
    have f6 : up (up (up (up (up μ 3 0 (μ 2 0 0) k) 4 0 (μ 2 0 0) v) 5 0 (μ 2 0 0) u) 6 0 (μ 2 0 0) o) 2 0 0 ((μ 2 0 0) + 1) 36 = μ 36 := by rw [up_k (by decide), up_k (by decide), up_k (by decide), up_k (by decide), up_k (by decide)]
    have hc := vC_join (μ := μ) (k := k) (v := v) (u := u) (o := o) (n := μ 2 0 0) rfl
    have t1 : Tch (fun k i j => i = 0 ∧ ((k = 2 ∧ j = 0) ∨ (3 ≤ k ∧ k ≤ 6) ∨ (k = 31 ∧ (j = 0 ∨ j = 2)) ∨ (32 ≤ k ∧ k ≤ 36))) μ (up (up (up (up (up μ 3 0 (μ 2 0 0) k) 4 0 (μ 2 0 0) v) 5 0 (μ 2 0 0) u) 6 0 (μ 2 0 0) o) 2 0 0 ((μ 2 0 0) + 1)) := ((((Tch.rf.up (by omega)).up (by omega)).up (by omega)).up (by omega)).up (by omega)
    generalize up (up (up (up (up μ 3 0 (μ 2 0 0) k) 4 0 (μ 2 0 0) v) 5 0 (μ 2 0 0) u) 6 0 (μ 2 0 0) o) 2 0 0 ((μ 2 0 0) + 1) = m1 at f0 f2 f3 f4 f5 f6 hc t1 ⊢
    have g0 : m1 31 0 0 = μ 2 0 0 := by rw [f0]; exact hn1
    refine T_M_person (d := 37) (k1 := fun _ z => absurd (by omega) z) (k2 := fun _ _ z => absurd z5 z) (b1 := by intros; omega) (b2 := by intros; omega) (b3 := by intros; omega) (b4 := by intros; omega) (k3 := fun _ _ _ _ _ => ?_) (k4 := fun _ _ _ _ z => absurd z (by omega)) (k5 := fun _ _ _ z => absurd z6 z) (k6 := fun z => absurd (by omega) z)
    obtain ⟨hs1, hs2⟩ := goes_off (s := m1 31 0 2) (p := m1 31 0 0) (by rw [f0]; exact hI_g hI) (by omega) (by omega)
    have ha : ∀ i, μ 2 0 0 ≤ i → i < 6 → bitF (μ 31 0 2) i = 0 := fun i i0 i1 => by
      rw [(hI_a hI (by omega) i1).1]
      have h3 : t6 (μ 7 0) i = 0 := (hI.pe.2.2.1 i i0 i1).1
      rw [t6_in (by omega) i1] at h3; exact h3
    have hr : ∀ j, 4 * μ 2 0 0 ≤ j → j < 24 → μ 36 0 j = 0 := fun j j0 j1 => by
      rw [hI_r hI (by omega) j1]
      have h3 : t24 (μ 8 0) (4 * (j / 4) + j % 4) = 0 := (hI.pe.2.2.1 (j / 4) (show μ 2 0 0 ≤ j / 4 by omega) (by omega)).2 (j % 4) (by omega) (by omega)
      rw [show 4 * (j / 4) + j % 4 = j by omega, t24_in (by omega) (by omega)] at h3
      exact h3
    have hs3 : t6 (bitF (b_and (m1 31 0 2) (b_xor (b_shl 1 (m1 31 0 0)) (-1)))) = t6 (bitF (μ 31 0 2)) := t6_ext fun i i0 i1 => by
      rw [hs2 i i0 i1]
      by_cases e : i = m1 31 0 0
      · rw [if_pos e, ha i (by omega) i1]
      · rw [if_neg e, f0]
    rw [g0] at hs1 hs3 ⊢
    generalize b_and (m1 31 0 2) (b_xor (b_shl 1 (μ 2 0 0)) (-1)) = s at hs1 hs3 ⊢
    refine loopR (n := 4) (fun q (m : aM) => Rn g (37 + 2) m_M_person 117 [some (aR 31 0), some (aI k), some (aI v), some (aI u), some (aI o), some (aI q)] [] m Q') (fun q m => Tch (fun k i _ => k = 36 ∧ i = 0) (up (up (up (up (up m1 32 0 (μ 2 0 0) k) 33 0 (μ 2 0 0) v) 34 0 (μ 2 0 0) u) 35 0 (μ 2 0 0) o) 31 0 2 s) m ∧ ∀ j, 0 ≤ j → j < 24 → m 36 0 j = μ 36 0 j) ?_ ?_ 0 _ (by omega) (by omega) ⟨Tch.rf, fun j _ _ => by rw [up_other (by decide), up_other (by decide), up_other (by decide), up_other (by decide), up_other (by decide), f6]⟩
    · rintro q m q0 q1 ⟨t, hj⟩ ih
      have e0 : m 31 0 0 = μ 2 0 0 := by rw [t 31 0 0 (by omega), up_ne (by decide), up_other (by decide), up_other (by decide), up_other (by decide), up_other (by decide), g0]
      refine B_M_person_117 (b1 := by intros; omega) (b2 := by intros; omega) (k1 := fun z => absurd z (by omega)) (b3 := by intros; omega) (b4 := by intros; omega) (b5 := by intros; omega) (b6 := by intros; omega) (k2 := fun _ => ih _ ⟨t.up ⟨rfl, rfl⟩, fun j j0 j1 => ?_⟩)
      by_cases e : j = 4 * m 31 0 0 + q
      · rw [e, up_same, hr _ (by omega) (by omega)]
      · rw [up_ne e]; exact hj j j0 j1
    · rintro m ⟨t, hj⟩
      have e0 : m 31 0 0 = μ 2 0 0 := by rw [t 31 0 0 (by omega), up_ne (by decide), up_other (by decide), up_other (by decide), up_other (by decide), up_other (by decide), g0]
      refine B_M_person_117 (b1 := by intros; omega) (b2 := by intros; omega) (k1 := fun _ => ?_) (b3 := by intros; omega) (b4 := by intros; omega) (b5 := by intros; omega) (b6 := by intros; omega) (k2 := fun z => absurd z (by omega))
      rw [show m 31 0 0 + 1 - 1 = μ 2 0 0 by omega]
      have t2 : Tch (fun k i j => i = 0 ∧ ((k = 2 ∧ j = 0) ∨ (3 ≤ k ∧ k ≤ 6) ∨ (k = 31 ∧ (j = 0 ∨ j = 2)) ∨ (32 ≤ k ∧ k ≤ 36))) μ (up m 31 0 0 (m 31 0 0 + 1)) := by
        refine Tch.up (Tch.tr (((((t1.up (by omega)).up (by omega)).up (by omega)).up (by omega)).up (by omega)) (fun k i j hx => t k i j (fun z => hx (by omega)))) (by omega)
      refine h' _ (hI.go t2 (pe := Or.inl ?_))
      have hc2 : vC (up m 31 0 0 (m 31 0 0 + 1)) 0 = vC m1 0 := by
        have t3 : Tch (fun k _ _ => 31 ≤ k) m1 (up m 31 0 0 (m 31 0 0 + 1)) := Tch.up (Tch.tr (((((Tch.rf.up (by omega)).up (by omega)).up (by omega)).up (by omega)).up (by omega)) (fun k i j hx => t k i j (fun z => hx (by omega)))) (by omega)
        unfold vC
        rw [t3 2 0 0 (by omega), t3 2 0 1 (by omega), t3.row (k := 3) (i := 0) (fun j => by omega), t3.row (k := 4) (i := 0) (fun j => by omega), t3.row (k := 5) (i := 0) (fun j => by omega), t3.row (k := 6) (i := 0) (fun j => by omega), t3.row (k := 7) (i := 0) (fun j => by omega), t3.row (k := 8) (i := 0) (fun j => by omega)]
      have hm2 : vM (up m 31 0 0 (m 31 0 0 + 1)) = joinV (vM μ) k v u o := by
        refine vM_join (s := s) (n := μ 2 0 0) hn1.symm (by rw [up_same, e0]) ?_ ?_ hs3 ?_ ?_ ?_ ?_ ?_
        · rw [up_ne (by decide), t 31 0 1 (by omega), up_ne (by decide), up_other (by decide), up_other (by decide), up_other (by decide), up_other (by decide), f0]
        · rw [up_ne (by decide), t 31 0 2 (by omega), up_same]
        · rw [up_k (by decide), t.row (k := 32) (i := 0) (fun j => by omega), up_k (by decide), up_k (by decide), up_k (by decide), up_k (by decide), up_row, f2]
        · rw [up_k (by decide), t.row (k := 33) (i := 0) (fun j => by omega), up_k (by decide), up_k (by decide), up_k (by decide), up_row, up_k (by decide), f3]
        · rw [up_k (by decide), t.row (k := 34) (i := 0) (fun j => by omega), up_k (by decide), up_k (by decide), up_row, up_k (by decide), up_k (by decide), f4]
        · rw [up_k (by decide), t.row (k := 35) (i := 0) (fun j => by omega), up_k (by decide), up_row, up_k (by decide), up_k (by decide), up_k (by decide), f5]
        · rw [up_k (by decide)]; exact t24_ext fun j j0 j1 => hj j j0 j1
      have hs4 : up m 31 0 0 (m 31 0 0 + 1) 31 0 2 = s := by rw [up_ne (by decide), t 31 0 2 (by omega), up_same]
      unfold PE
      rw [hc2, hm2, hc, hs4, hI.pe.1]
      exact ⟨rfl, joinV_ok hI.pe.2.1 (show μ 2 0 0 < 6 from z7) (by omega) ⟨z3, z4⟩ z5 z6, hI.pe.2.2.1.join, hs1⟩
  · exact T_M_person (d := 37) (k1 := fun _ z => absurd (by omega) z) (k2 := fun _ _ z => absurd z5 z) (k3 := fun _ _ _ _ z => absurd (by omega) z) (k4 := fun _ _ _ _ _ => h') (k5 := fun _ _ _ z => absurd z6 z) (k6 := fun z => absurd (by omega) z)
  · exact T_M_person (d := 37) (k1 := fun _ z => absurd (by omega) z) (k2 := fun _ _ z => absurd z5 z) (k3 := fun _ _ _ z => absurd z z6) (k4 := fun _ _ _ z => absurd z z6) (k5 := fun _ _ _ _ => h') (k6 := fun z => absurd (by omega) z)
  · exact T_M_person (d := 37) (k1 := fun z => absurd z (by omega)) (k2 := fun z => absurd z (by omega)) (k3 := fun z => absurd z (by omega)) (k4 := fun z => absurd z (by omega)) (k5 := fun z => absurd z (by omega)) (k6 := fun _ => h')
end
