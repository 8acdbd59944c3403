/-! The class: hearing, a DAY, some DAYS. -/
theorem up_inst {μ : aM} {k : Nat} {i i' j x : Int} (h : i' ≠ i) : up μ k i j x k i' = μ k i' := by funext j'; unfold up; rw [if_neg (fun z => h z.2.2)]
theorem vC_setO {μ : aM} {a p x : Int} : vC (up μ 6 a p x) a = setO (vC μ a) (t6 (pu (μ 6 a) p x)) := by
  unfold vC setO
  rw [up_k (by decide), up_k (by decide), up_k (by decide), up_k (by decide), up_row, up_k (by decide), up_k (by decide)]
theorem t6_t6 {f : Int → Int} : t6 (t6 f) = t6 f := t6_ext fun i h0 h6 => t6_in h0 h6
theorem t6_pu {f f' : Int → Int} {p x : Int} (h : t6 f = t6 f') : t6 (pu f p x) = t6 (pu f' p x) := t6_ext fun i h0 h6 => by
  unfold pu; split
  · rfl
  · exact t6_at h h0 h6
theorem vC_off {μ : aM} {a : Int} {V : Vw} {o : Int → Int} (h : vC μ a = setO V (t6 o)) : t6 (μ 6 a) = t6 o := congrArg vo h
theorem setO_setO {V : Vw} {o o' : Int → Int} : setO (setO V o) o' = setO V o' := rfl
theorem vok_setO {B : Int} {V : Vw} {o : Int → Int} (hV : VOk B V) (ho : oOk o) : VOk B (setO V (t6 o)) := by
  obtain ⟨h1, h2, h3⟩ := hV
  refine ⟨h1, h2, fun i i0 i6 => ?_⟩
  obtain ⟨a1, a2, a3, a4, a5, a6⟩ := h3 i i0 i6
  refine ⟨a1, a2, a3, ?_, a5, a6⟩
  have e : vo (setO V (t6 o)) i = o i := t6_in i0 i6
  rw [e]; exact ho i i0 i6
section
variable {g : aG} {d : Nat} {μ : aM} {Q : aQ} {p B t a r : Int} {T : TDt} {V : Vw} {o rg : Int → Int} {loud : Int}
theorem c_Mo_heard (hV : VOk B V) (hB : B ≤ 1000000) (ho : oOk o) (hVm : vC μ a = setO V (t6 o)) (hp : 0 ≤ p ∧ p < 6) (hr : 0 ≤ r ∧ r < 6) (hrg : μ 24 0 r = rg r) (h : ∀ x, clp 999 x = setB loud V rg o p r → Q (some (aI x)) μ) : Cal g (d + 1) m_Mo_heard [aR 21 0, aR 2 a, aI loud, aI p, aI r] μ Q := by
  have eo : ∀ q, 0 ≤ q → q < 6 → μ 6 a q = o q := fun q q0 q6 => t6_at (vC_off hVm) q0 q6
  have ek : μ 3 a p = vk V p := (vk_C hp.1 hp.2).symm.trans (by rw [hVm]; rfl)
  have ev : μ 4 a p = vv V p := (vv_C hp.1 hp.2).symm.trans (by rw [hVm]; rfl)
  have ed : μ 2 a 1 = vd V := (congrArg vd hVm : _)
  have e1 := eo p hp.1 hp.2
  have e2 := eo r hr.1 hr.2
  have o1 := ho p hp.1 hp.2
  have o2 := ho r hr.1 hr.2
  have hvd := hV.2.1
  obtain ⟨a1, a2, a3, a4, a5, a6⟩ := hV.2.2 p hp.1 hp.2
  obtain ⟨q1, q2, q3⟩ := half_rng o2 o1
  have q4 : -1998 ≤ (o r - o p).tdiv 2 ∧ (o r - o p).tdiv 2 ≤ 1998 := by omega
  have hrem : i_rem (μ 2 a 1) 4 = vd V % 4 := by rw [ed]; exact i_rem_nn (by omega) (by omega) (by omega)
  have ehalf : i_div (μ 6 a r - μ 6 a p) 2 = (o r - o p).tdiv 2 := by rw [e1, e2]; exact q1
  have hm4 : 0 ≤ vd V % 4 ∧ vd V % 4 < 4 := by omega
  have er : μ 8 a (4 * p + vd V % 4) = vr V (4 * p + vd V % 4) := (vr_C (by omega) (by omega)).symm.trans (by rw [hVm]; rfl)
  have hrr := a6 (vd V % 4) hm4.1 hm4.2
  have hid : ∀ x, -999 ≤ x → x ≤ 999 → clp 999 x = x := fun x h1 h2 => clp_id ⟨h1, h2⟩
  have hcl : i_max (-1) (i_min 1 ((o r - o p).tdiv 2)) = clp 1 ((o r - o p).tdiv 2) := by
    unfold i_max i_min clp
    repeat' split
    all_goals omega
  have hcr : -1 ≤ clp 1 ((o r - o p).tdiv 2) ∧ clp 1 ((o r - o p).tdiv 2) ≤ 1 := clp_rng (by omega)
  have hh : -999 ≤ o p + (o r - o p).tdiv 2 ∧ o p + (o r - o p).tdiv 2 ≤ 999 := by clear a5 hid hcl hcr a6; omega
  have hh1 : -999 ≤ o p + clp 1 ((o r - o p).tdiv 2) ∧ o p + clp 1 ((o r - o p).tdiv 2) ≤ 999 := by
    clear a5 hid hcl hcr a6
    unfold clp
    repeat' split
    all_goals omega
  clear q2 q3 a5 a6
  refine C_ent rfl (Nat.le_of_ble_eq_true rfl) ?_
  refine E_Mo_heard (b7 := fun _ _ => by rw [ehalf]; omega) (b9 := fun _ _ => by rw [ehalf, hcl]; omega) (b11 := fun _ _ _ => by rw [hrem]; omega) (b12 := fun _ _ _ => by rw [hrem]; omega) (b13 := fun _ _ _ => by rw [hrem, er]; omega) (k1 := fun z1 z2 => ?_) (k2 := fun z1 z2 => ?_) (k3 := fun z1 z2 z3 => ?_) (k4 := fun z1 z2 z3 => ?_) (k5 := fun z1 z2 z3 => ?_) (k6 := fun z1 z2 z3 => ?_) (k7 := fun z1 z2 => ?_) (k8 := fun z1 z2 => ?_) (k9 := fun z1 z2 z3 => ?_) (k10 := fun z1 z2 z3 => ?_) (k11 := fun z1 z2 z3 z4 z5 z6 z7 z8 => ?_) (k12 := fun z1 => ?_)
  all_goals
    try rw [hrem]
    try rw [ehalf]
    try rw [hcl]
    try rw [er]
    try rw [e1]
    try rw [e2]
    rw [ev, hrg] at z1
    try rw [ek] at z2
    try rw [hrg] at z3
    apply h
    unfold setB
    rw [q1]
  · rw [if_neg (by omega), if_pos z2]; exact hid _ (by omega) (by omega)
  · rw [if_neg (by omega), if_neg (by omega), if_pos z2]; exact hid _ (by omega) (by omega)
  · rw [if_neg (by omega), if_neg (by omega), if_neg (by omega), if_pos z2, if_neg (by omega)]; exact hid _ (by omega) (by omega)
  · rw [if_neg (by omega), if_neg (by omega), if_neg (by omega), if_pos z2, if_pos (by omega)]; exact hid _ (by omega) (by omega)
  · rw [if_neg (by omega), if_neg (by omega), if_neg (by omega), if_neg (by omega), if_pos z2, if_neg (by omega)]; exact hid _ (by omega) (by omega)
  · rw [if_neg (by omega), if_neg (by omega), if_neg (by omega), if_neg (by omega), if_pos z2, if_pos (by omega)]; exact hid _ (by omega) (by omega)
  · rw [if_neg (by omega), if_neg (by omega), if_neg (by omega), if_neg (by omega), if_neg (by omega), if_pos z2]
    exact hid _ (by omega) (by omega)
  · rw [if_neg (by omega), if_neg (by omega), if_neg (by omega), if_neg (by omega), if_neg (by omega), if_neg (by omega), if_neg (by omega)]; exact hid _ (by omega) (by omega)
  · rw [if_neg (by omega), if_neg (by omega), if_neg (by omega), if_neg (by omega), if_neg (by omega), if_neg (by omega), if_pos z2, if_neg (by omega)]; exact hid _ (by omega) (by omega)
  · rw [if_neg (by omega), if_neg (by omega), if_neg (by omega), if_neg (by omega), if_neg (by omega), if_neg (by omega), if_pos z2, if_pos (by omega)]
  · rw [ek] at z3 z4 z5 z6 z7 z8
    rw [if_neg (by omega), if_neg (by omega), if_neg (by omega), if_neg (by omega), if_neg (by omega), if_neg (by omega), if_neg (by omega)]; exact hid _ (by omega) (by omega)
  · rw [if_pos (by omega)]; exact hid _ (by omega) (by omega)
/-- what a change of the crowd a by hearing keeps -/
def HFr (a : Int) (μ μ' : aM) : Prop := Fr [6, 21] μ μ' ∧ (∀ b, b ≠ a → μ' 6 b = μ 6 b) ∧ μ' 21 0 4 = μ 21 0 4 ∧ μ' 21 0 5 = μ 21 0 5
theorem HFr.rf : HFr a μ μ := ⟨Fr.rf, fun _ _ => rfl, rfl, rfl⟩
theorem HFr.tr {μ₁ μ₂ : aM} (h : HFr a μ μ₁) (h2 : HFr a μ₁ μ₂) : HFr a μ μ₂ := ⟨h.1.tr h2.1, fun b hb => (h2.2.1 b hb).trans (h.2.1 b hb), h2.2.2.1.trans h.2.2.1, h2.2.2.2.trans h.2.2.2⟩
theorem HFr.st {c x : Int} : HFr a μ (up (up μ 21 0 6 c) 6 a p x) := ⟨Fr.rf.up.up, fun b hb => by rw [up_inst hb, up_k (by decide)], by rw [up_other (by decide), up_ne (by decide)], by rw [up_other (by decide), up_ne (by decide)]⟩
theorem HFr.st6 {x : Int} : HFr a μ (up μ 6 a p x) := ⟨Fr.rf.up, fun b hb => by rw [up_inst hb], by rw [up_other (by decide)], by rw [up_other (by decide)]⟩
theorem c_Mo_hear {s0 : (Int → Int) × Bool} (hV : VOk B V) (hB : B ≤ 1000000) (ho : oOk s0.1) (hVm : vC μ a = setO V (t6 s0.1)) (h6 : μ 21 0 6 = b2 s0.2) (hr : 0 ≤ r ∧ r < 6) (hrg : μ 24 0 r = rg r) (hl : μ 14 t 3 = loud) (h : ∀ μ', HFr a μ μ' → vC μ' a = setO V (t6 (hearV loud V rg s0 r).1) → μ' 21 0 6 = b2 (hearV loud V rg s0 r).2 → Q none μ') : Cal g (d + 2) m_Mo_hear [aR 21 0, aR 2 a, aR 14 t, aI r] μ Q := by
  have hn := hV.1
  refine T_Mo_hear (k1 := loopR (n := vn V) (fun p (m : aM) => Rn g (d + 1) m_Mo_hear 3 [some (aR 21 0), some (aR 2 a), some (aR 14 t), some (aI r), some (aI p), none] [] m Q) (fun p m => HFr a μ m ∧ vC m a = setO V (t6 (fI (hearS loud V rg r) s0 p).1) ∧ m 21 0 6 = b2 (fI (hearS loud V rg r) s0 p).2) ?_ ?_ 0 μ (by omega) hn.1 ⟨HFr.rf, hVm, h6⟩)
  · rintro p m h0 hp ⟨hf, hm, hc⟩ ih
    have hos := hearF_ok (loud := loud) (V := V) (rg := rg) (r := r) ho hn.2 hr p h0 (by omega)
    have hsr := setB_rng (loud := loud) (B := B) (V := V) (rg := rg) hos ⟨h0, by omega⟩ hr
    have hst : fI (hearS loud V rg r) s0 (p + 1) = hearS loud V rg r (fI (hearS loud V rg r) s0 p) p := fI_s h0
    generalize hs : fI (hearS loud V rg r) s0 p = s at *
    have e2 : m 2 a 0 = vn V := (congrArg vn hm : _)
    have e7 : m 7 a p = va V p := (va_C h0 (by omega)).symm.trans (by rw [hm]; rfl)
    have e6 : m 6 a p = s.1 p := t6_at (vC_off hm) h0 (by omega)
    have no : (p = r ∨ va V p ≠ 0) → Rn g (d + 1) m_Mo_hear 3 [some (aR 21 0), some (aR 2 a), some (aR 14 t), some (aI r), some (aI (p + 1)), none] [] m Q := fun z => by
      refine ih m ⟨hf, ?_, ?_⟩ <;> rw [hst] <;> unfold hearS <;> rw [if_neg (by omega)] <;> assumption
    refine B_Mo_hear_3 (k1 := fun z => absurd z (by omega)) (k2 := fun _ z => no (Or.inl z)) (k3 := fun _ _ z => no (Or.inr (by omega))) (k4 := fun _ z1 z2 => ?_)
    rw [show m 14 t 3 = loud by rw [hf.1 14 (by decide)]; exact hl]
    refine Cal_le (Nat.le_add_left 1 d) (c_Mo_heard (d := 0) hV hB hos hm ⟨h0, by omega⟩ hr (rg := rg) (by rw [hf.1 24 (by decide)]; exact hrg) (fun x hx => ?_))
    have hyes : hearS loud V rg r s p = (pu s.1 p (setB loud V rg s.1 p r), s.2 || decide (setB loud V rg s.1 p r ≠ s.1 p)) := by unfold hearS; rw [if_pos ⟨z1, by omega⟩]
    have go : ∀ c, c = b2 (s.2 || decide (setB loud V rg s.1 p r ≠ s.1 p)) → Rn g (d + 1) m_Mo_hear 3 [some (aR 21 0), some (aR 2 a), some (aR 14 t), some (aI r), some (aI (p + 1)), none] [] (up (up m 21 0 6 c) 6 a p (setB loud V rg s.1 p r)) Q := fun c hc => by
      refine ih _ ⟨hf.tr HFr.st, ?_, ?_⟩
      · have ev : vC (up m 21 0 6 c) a = vC m a := vC_cong (fun k k1 k2 => up_k (by omega))
        rw [vC_setO, ev, hm, hst, hyes, up_k (by decide), setO_setO]
        exact congrArg (setO V) (t6_pu (vC_off hm))
      · rw [up_other (by decide), up_same, hst, hyes, hc]
    refine B_Mo_hear_40 (k1 := fun y => ?_) (k2 := fun y1 y2 => ?_) (k3 := fun y1 y2 => ?_)
    · rw [hx]; refine go 1 ?_
      rw [hc] at y; rw [b2_ne y]; rfl
    · rw [hx] at y2 ⊢; refine go 0 ?_
      rw [hc] at y1; rw [b2_eq y1, decide_eq_false (by omega)]; rfl
    · rw [hx] at y2 ⊢; refine go 1 ?_
      rw [hc] at y1; rw [b2_eq y1, decide_eq_true (by omega)]; rfl
  · rintro m ⟨hf, hm, hc⟩
    have e2 : m 2 a 0 = vn V := (congrArg vn hm : _)
    refine B_Mo_hear_3 (k1 := fun _ => h m hf hm hc) (k2 := fun z => absurd z (by omega)) (k3 := fun z => absurd z (by omega)) (k4 := fun z => absurd z (by omega))
end
