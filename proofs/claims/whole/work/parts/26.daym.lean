/-! The reference: ringing, a DAY, some DAYS. -/
section
variable {g : aG} {d : Nat} {μ : aM} {Q : aQ} {p r B pp : Int} {T : TDt} {V : Vw} {o rg cm : Int → Int}
theorem c_M_setBy (hT : MHn μ T) (hok : TDok T) (hV : VOk B V) (hB : B ≤ 1000000) (ho : oOk o) (hVm : vM μ = setO V (t6 o)) (hp : 0 ≤ p ∧ p < 6) (hr : 0 ≤ r ∧ r < 6) (hrg : μ 48 0 r = rg r) (h : Q (some (aI (setB (loudT T) V rg o p r))) μ) : Cal g (d + 3) m_M_setBy [aR 31 0, aI p, aI r] μ Q := by
  have eo : ∀ q, 0 ≤ q → q < 6 → μ 35 0 q = o q := fun q q0 q6 => t6_at (vM_off hVm) q0 q6
  have ek : μ 32 0 p = vk V p := (vk_M hp.1 hp.2).symm.trans (by rw [hVm]; rfl)
  have ev : μ 33 0 p = vv V p := (vv_M hp.1 hp.2).symm.trans (by rw [hVm]; rfl)
  have ed : μ 31 0 1 = vd V := (congrArg vd hVm : _)
  have e1 := eo p hp.1 hp.2
  have e2 := eo r hr.1 hr.2
  have o1 := ho p hp.1 hp.2
  have o2 := ho r hr.1 hr.2
  have hvd := hV.2.1
  obtain ⟨a1, a2, a3, a4, a5, a6⟩ := hV.2.2 p hp.1 hp.2
  obtain ⟨q1, q2, q3⟩ := half_rng o2 o1
  have q4 : -1998 ≤ (o r - o p).tdiv 2 ∧ (o r - o p).tdiv 2 ≤ 1998 := by omega
  have hrem : i_rem (μ 31 0 1) 4 = vd V % 4 := by rw [ed]; exact i_rem_nn (by omega) (by omega) (by omega)
  have ehalf : i_div (μ 35 0 r - μ 35 0 p) 2 = (o r - o p).tdiv 2 := by rw [e1, e2]; exact q1
  have hm4 : 0 ≤ vd V % 4 ∧ vd V % 4 < 4 := by omega
  have er : μ 36 0 (4 * p + vd V % 4) = vr V (4 * p + vd V % 4) := (vr_M (by omega) (by omega)).symm.trans (by rw [hVm]; rfl)
  have hrr := a6 (vd V % 4) hm4.1 hm4.2
  have hcr : -1 ≤ clp 1 ((o r - o p).tdiv 2) ∧ clp 1 ((o r - o p).tdiv 2) ≤ 1 := clp_rng (by omega)
  clear q2 q3 a5 a6
  refine T_M_setBy (b10 := fun _ _ _ => by rw [ehalf]; omega) (b14 := fun _ _ _ => by rw [ehalf]; omega) (b17 := fun _ _ _ _ => by rw [hrem]; omega) (b18 := fun _ _ _ _ => by rw [hrem]; omega) (b19 := fun _ _ _ _ => by rw [hrem, er]; omega) (k1 := fun z1 => ?_) (k2 := fun z1 z0 z2 => ?_) (k3 := fun z1 z0 z2 => ?_) (k4 := fun z1 z0 z2 z3 => ?_) (k5 := fun z1 z0 z2 z3 => ?_) (k6 := fun z1 z0 z2 => ?_) (k7 := fun z1 z0 z2 => absurd z2 z0) (k8 := fun z1 z0 z2 z3 => ?_) (k9 := fun z1 z0 z2 z3 => ?_) (k10 := fun z1 z0 z2 z3 z4 z5 z6 z7 => ?_) (k11 := fun z1 z2 => ?_)
  all_goals
    rw [ev, hrg] at z1
    try rw [ek] at z0
    try rw [ek] at z2
    unfold setB at h
    rw [q1] at h
  · rw [if_pos (by omega)] at h; rw [e1]; exact h
  · rw [if_neg (by omega), if_neg (by omega), if_pos z2] at h; rw [ehalf, e1]; exact h
  · rw [if_neg (by omega), if_neg (by omega), if_neg (by omega), if_pos z2] at h
    refine c_M_lastOf hT hok (B_M_setBy_118 (k1 := fun y => ?_) (k2 := fun y => ?_))
    · rw [hrg] at y; rw [if_neg (by show ¬ loudT T ≤ rg r; unfold loudT; omega)] at h; rw [e1]; exact h
    · rw [hrg] at y; rw [if_pos (by show loudT T ≤ rg r; unfold loudT; omega)] at h; rw [e2]; exact h
  · rw [if_neg (by omega), if_neg (by omega), if_neg (by omega), if_neg (by omega), if_pos z2, if_neg (by omega)] at h; rw [e1]; exact h
  · rw [if_neg (by omega), if_neg (by omega), if_neg (by omega), if_neg (by omega), if_pos z2, if_pos (by omega)] at h; rw [e2]; exact h
  · rw [if_neg (by omega), if_neg (by omega), if_neg (by omega), if_neg (by omega), if_neg (by omega), if_pos z2] at h; rw [ehalf, e1]; exact h
  · rw [if_neg (by omega), if_neg (by omega), if_neg (by omega), if_neg (by omega), if_neg (by omega), if_neg (by omega), if_pos z2, if_neg (by omega)] at h; rw [e1]; exact h
  · rw [if_neg (by omega), if_neg (by omega), if_neg (by omega), if_neg (by omega), if_neg (by omega), if_neg (by omega), if_pos z2, if_pos (by omega)] at h; rw [hrem, er, e2]; exact h
  · rw [ek] at z3 z4 z5 z6 z7
    rw [if_neg (by omega), if_pos (by omega)] at h; rw [e2]; exact h
  · rw [if_neg (by omega), if_neg (by omega), if_neg (by omega), if_neg (by omega), if_neg (by omega), if_neg (by omega), if_neg (by omega)] at h; rw [e1]; exact h
/-- what the ringing of r keeps -/
def RFr (μ μ' : aM) : Prop := MFr μ μ' ∧ μ' 47 = μ 47 ∧ μ' 48 = μ 48 ∧ μ' 31 0 1 = μ 31 0 1
theorem c_M_ringsOne {s0 : (Int → Int) × Bool} (hT : MHn μ T) (hok : TDok T) (hV : VOk B V) (hB : B ≤ 1000000) (ho : oOk s0.1) (hVm : vM μ = setO V (t6 s0.1)) (h27 : μ 31 0 27 = b2 s0.2) (hr : 0 ≤ r ∧ r < 6) (hrg : μ 48 0 r = rg r) (h : ∀ μ', RFr μ μ' → μ' 49 0 = pu (μ 49 0) r 1 → vM μ' = setO V (t6 (hearV (loudT T) V rg s0 r).1) → μ' 31 0 27 = b2 (hearV (loudT T) V rg s0 r).2 → Q none μ') : Cal g (d + 4) m_M_ringsOne [aR 31 0, aI r] μ Q := by
  have hn := hV.1
  refine T_M_ringsOne (k1 := loopR (n := vn V) (fun p (m : aM) => Rn g (d + 3) m_M_ringsOne 9 [some (aR 31 0), some (aI r), some (aI p), none] [] m Q) (fun p m => RFr μ m ∧ m 49 0 = pu (μ 49 0) r 1 ∧ vM m = setO V (t6 (fI (hearS (loudT T) V rg r) s0 p).1) ∧ m 31 0 27 = b2 (fI (hearS (loudT T) V rg r) s0 p).2) ?_ ?_ 0 (up μ 49 0 r 1) (by omega) hn.1 ⟨⟨MFr.rf.u, up_k (by decide), up_k (by decide), by rw [up_k (by decide)]⟩, up_row, by rw [vM_u (by omega)]; exact hVm, by rw [up_k (by decide)]; exact h27⟩)
  · rintro p m h0 hp ⟨hf, h49, hm, hc⟩ ih
    have hos := hearF_ok (loud := loudT T) (V := V) (rg := rg) (r := r) ho hn.2 hr p h0 (by omega)
    have hst : fI (hearS (loudT T) V rg r) s0 (p + 1) = hearS (loudT T) V rg r (fI (hearS (loudT T) V rg r) s0 p) p := fI_s h0
    generalize hs : fI (hearS (loudT T) V rg r) s0 p = s at *
    have e2 : m 31 0 0 = vn V := (congrArg vn hm : _)
    have ea : va V p = bI (b_and (b_shr (m 31 0 2) p) 1 = 1) := ((va_M h0 (by omega)).symm.trans (by rw [hm]; rfl)).symm
    have e6 : m 35 0 p = s.1 p := t6_at (vM_off hm) h0 (by omega)
    have no : (p = r ∨ va V p ≠ 0) → Rn g (d + 3) m_M_ringsOne 9 [some (aR 31 0), some (aI r), some (aI (p + 1)), none] [] m Q := fun z => by
      refine ih m ⟨hf, h49, ?_, ?_⟩ <;> rw [hst] <;> unfold hearS <;> rw [if_neg (by omega)] <;> assumption
    refine B_M_ringsOne_9 (k1 := fun z => absurd z (by omega)) (k2 := fun _ z => no (Or.inl z)) (k3 := fun _ z1 z2 => ?_) (k4 := fun _ _ z => no (Or.inr (by rw [ea, bI_t z]; omega)))
    have z2' : va V p = 0 := by rw [ea, bI_f z2]
    refine c_M_setBy (hT.fr hf.1) hok hV hB hos hm ⟨h0, by omega⟩ hr (rg := rg) (by rw [hf.2.2.1]; exact hrg) ?_
    have hyes : hearS (loudT T) V rg r s p = (pu s.1 p (setB (loudT T) V rg s.1 p r), s.2 || decide (setB (loudT T) V rg s.1 p r ≠ s.1 p)) := by unfold hearS; rw [if_pos ⟨z1, z2'⟩]
    have go : ∀ c, c = b2 (s.2 || decide (setB (loudT T) V rg s.1 p r ≠ s.1 p)) → Rn g (d + 3) m_M_ringsOne 9 [some (aR 31 0), some (aI r), some (aI (p + 1)), none] [] (up (up m 31 0 27 c) 35 0 p (setB (loudT T) V rg s.1 p r)) Q := fun c hc => by
      refine ih _ ⟨⟨(hf.1.u27).u, by rw [up_k (by decide), up_k (by decide)]; exact hf.2.1, by rw [up_k (by decide), up_k (by decide)]; exact hf.2.2.1, by rw [up_k (by decide), up_ne (by decide)]; exact hf.2.2.2⟩, by rw [up_k (by decide), up_k (by decide)]; exact h49, ?_, ?_⟩
      · rw [vM_setO, vM_27, hm, hst, hyes, up_k (by decide), setO_setO]
        exact congrArg (setO V) (t6_pu (vM_off hm))
      · rw [up_other (by decide), up_same, hst, hyes, hc]
    refine B_M_ringsOne_43 (k1 := fun y => ?_) (k2 := fun y1 y2 => ?_) (k3 := fun y1 y2 => ?_)
    · refine go 1 ?_
      rw [hc] at y; rw [b2_ne y]; rfl
    · refine go 0 ?_
      rw [hc] at y1; rw [b2_eq y1, decide_eq_false (by omega)]; rfl
    · refine go 1 ?_
      rw [hc] at y1; rw [b2_eq y1, decide_eq_true (by omega)]; rfl
  · rintro m ⟨hf, h49, hm, hc⟩
    have e2 : m 31 0 0 = vn V := (congrArg vn hm : _)
    refine B_M_ringsOne_9 (k1 := fun _ => h m hf h49 hm hc) (k2 := fun z => absurd z (by omega)) (k3 := fun z => absurd z (by omega)) (k4 := fun z => absurd z (by omega))
theorem c_M_nextRinger {l : List Int} {n : Int} (hn : μ 31 0 0 = n) (hn6 : 0 ≤ n ∧ n ≤ 6) (hc : ∀ q, 0 ≤ q → q < n → (q ∈ l ↔ 0 < μ 48 0 q ∧ μ 49 0 q = 0)) (hl : ∀ q ∈ l, 0 ≤ q ∧ q < n) (hs : SL cm l) (hcm : ∀ q, 0 ≤ q → q < n → μ 47 0 q = cm q) (h : Q (some (aI (l.headD (-1)))) μ) : Cal g (d + 1) m_M_nextRinger [aR 31 0] μ Q := by
  refine T_M_nextRinger (k1 := loopR (n := n) (fun p (x : Int) => Rn g d m_M_nextRinger 4 [some (aR 31 0), some (aI x), some (aI p)] [] μ Q) (fun p x => (x = -1 ∧ ∀ q, 0 ≤ q → q < p → q ∉ l) ∨ ((0 ≤ x ∧ x < p) ∧ x ∈ l ∧ ∀ q, 0 ≤ q → q < p → q ∈ l → cm x < cm q ∨ (cm x = cm q ∧ x ≤ q))) ?_ ?_ 0 (-1) (by omega) hn6.1 (Or.inl ⟨rfl, fun q h0 h1 => absurd h1 (by omega)⟩))
  · intro p x h0 hp hx ih
    have hcp := hc p h0 hp
    have keep : p ∉ l → Rn g d m_M_nextRinger 4 [some (aR 31 0), some (aI x), some (aI (p + 1))] [] μ Q := fun z => by
      refine ih x ?_
      rcases hx with ⟨hx, hq⟩ | ⟨hx, hm, hq⟩
      · refine Or.inl ⟨hx, fun q q0 q1 hin => ?_⟩
        by_cases e : q = p
        · exact z (e ▸ hin)
        · exact hq q q0 (by omega) hin
      · refine Or.inr ⟨by omega, hm, fun q q0 q1 hin => ?_⟩
        by_cases e : q = p
        · exact absurd (e ▸ hin) z
        · exact hq q q0 (by omega) hin
    refine B_M_nextRinger_4 (k1 := fun z => absurd z (by omega)) (k2 := fun _ z => keep (fun w => absurd (hcp.mp w).1 (by omega))) (k3 := fun _ z1 z2 => keep (fun w => absurd (hcp.mp w).2 z2)) (k4 := fun _ z1 z2 z3 => ?_) (k5 := fun _ z1 z2 z3 z4 => ?_) (k6 := fun _ z1 z2 z3 z4 => ?_) (b7 := fun _ _ _ _ => by rcases hx with hx | hx <;> omega)
    · have hin := hcp.mpr ⟨z1, z2⟩
      refine ih p (Or.inr ⟨by omega, hin, fun q q0 q1 hq => ?_⟩)
      rcases hx with ⟨hx, hq'⟩ | ⟨hx, _, _⟩
      · by_cases e : q = p
        · rw [e]; exact Or.inr ⟨rfl, Int.le_refl _⟩
        · exact absurd hq (hq' q q0 (by omega))
      · omega
    · have hin := hcp.mpr ⟨z1, z2⟩
      rcases hx with ⟨hx, _⟩ | ⟨hx, hm, hq⟩
      · omega
      · rw [hcm p h0 hp, hcm x hx.1 (by omega)] at z4
        refine ih x (Or.inr ⟨by omega, hm, fun q q0 q1 hq' => ?_⟩)
        by_cases e : q = p
        · rw [e]; omega
        · exact hq q q0 (by omega) hq'
    · have hin := hcp.mpr ⟨z1, z2⟩
      rcases hx with ⟨hx, _⟩ | ⟨hx, hm, hq⟩
      · omega
      · rw [hcm p h0 hp, hcm x hx.1 (by omega)] at z4
        refine ih p (Or.inr ⟨by omega, hin, fun q q0 q1 hq' => ?_⟩)
        by_cases e : q = p
        · rw [e]; exact Or.inr ⟨rfl, Int.le_refl _⟩
        · have := hq q q0 (by omega) hq'
          omega
  · intro x hx
    refine B_M_nextRinger_4 (k1 := fun _ => ?_) (k2 := fun z => absurd z (by omega)) (k3 := fun z => absurd z (by omega)) (k4 := fun z => absurd z (by omega)) (k5 := fun z => absurd z (by omega)) (k6 := fun z => absurd z (by omega)) (b7 := fun z => absurd z (by omega))
    have : l.headD (-1) = x := by
      match l, hx, hs, hl with
      | [], hx, _, _ =>
        rcases hx with ⟨hx, _⟩ | ⟨_, hm, _⟩
        · exact hx.symm
        · exact absurd hm (by simp)
      | r :: l, hx, hs, hl =>
        show r = x
        have hr := hl r List.mem_cons_self
        rcases hx with ⟨_, hq⟩ | ⟨hx, hm, hq⟩
        · exact absurd List.mem_cons_self (hq r hr.1 hr.2)
        · have h1 := hq r hr.1 hr.2 List.mem_cons_self
          rcases List.mem_cons.mp hm with e | e
          · exact e.symm
          · have h2 := hs.1 x e
            omega
    rw [this] at h; exact h
end
