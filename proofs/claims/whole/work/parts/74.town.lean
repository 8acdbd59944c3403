/-! A TOWN, read by both. -/
section
variable {g : aG} {d : Nat} {μ m0 : aM} {Q : aQ} {x f a b t c n p w o l fr : Int} {ch : Int → Int} {P : Int → Rs} {T : TDt}
theorem MP.add {m : aM} {r : Cl} (h : MP μ f T l) (hG : TG T l) (hT : T.1 < 10) (hr : CG ch n p r) (hok : r.1 = true) (hl : l + (r.2.2.2.2.length : Int) ≤ 100) (tm : Tch (XC f (10 * f + T.1)) μ m) (hw : m 39 0 (10 * f + T.1) = r.2.2.1) (hv : m 40 0 (10 * f + T.1) = r.2.2.2.1) (hs : (m 31 0 21, m 43 0) = (r.2.2.2.2.map mtok).foldl emM (μ 31 0 21, μ 43 0)) (he : r.2.2.1 ≤ 1 → m 41 0 (10 * f + T.1) = μ 31 0 21 ∧ m 42 0 (10 * f + T.1) = m 31 0 21) : MP m f (addT T l r) (l + r.2.2.2.2.length) := by
  obtain ⟨h1, h2⟩ := h
  obtain ⟨⟨g1, g2⟩, g3, g4, g5⟩ := hG
  obtain ⟨b1, b2, b3⟩ := emB_row r.2.2.2.2 l T.2.2.2.2 g3.1 hl
  obtain ⟨m1, m2, m3⟩ := emM_row (r.2.2.2.2.map mtok) (μ 31 0 21) (μ 43 0)
  rw [← hs] at m1 m2 m3
  have s1 : m 31 0 21 = μ 31 0 21 + r.2.2.2.2.length := by rw [List.length_map] at m1; exact m1
  refine ⟨fun c c0 c1 => ?_, by rw [s1, h2]; omega⟩
  have c1 : c < T.1 + 1 := c1
  show m 39 0 (10 * f + c) = pu T.2.1 T.1 r.2.2.1 c ∧ m 40 0 (10 * f + c) = pu T.2.2.1 T.1 r.2.2.2.1 c ∧ (pu T.2.1 T.1 r.2.2.1 c ≤ 1 → m 41 0 (10 * f + c) = 100 * f + frF (pu T.2.2.2.1 T.1 (l + r.2.2.2.2.length)) c ∧ m 42 0 (10 * f + c) = 100 * f + pu T.2.2.2.1 T.1 (l + r.2.2.2.2.length) c ∧ ∀ i, frF (pu T.2.2.2.1 T.1 (l + r.2.2.2.2.length)) c ≤ i → i < pu T.2.2.2.1 T.1 (l + r.2.2.2.2.length) c → m 43 0 (100 * f + i) = mtok ((r.2.2.2.2.foldl emB (l, T.2.2.2.2)).2 i))
  rw [frF_pu (by omega)]
  by_cases e : c = T.1
  · subst e
    rw [pu_at, pu_at, pu_at, g4]
    refine ⟨hw, hv, fun z => ?_⟩
    obtain ⟨e1, e2⟩ := he z
    refine ⟨by rw [e1, h2], by rw [e2, s1, h2]; omega, fun i i0 i1 => ?_⟩
    obtain ⟨j, rfl⟩ : ∃ j : Nat, i = l + (j : Int) := ⟨(i - l).toNat, by omega⟩
    have hj : j < r.2.2.2.2.length := by omega
    rw [b3 j hj]
    have := m3 j (by rw [List.length_map]; exact hj)
    rw [h2] at this
    rw [show 100 * f + (l + (j : Int)) = 100 * f + l + (j : Int) by omega]
    refine (show m 43 0 (100 * f + l + (j : Int)) = (r.2.2.2.2.map mtok).getD j 0 from this).trans ?_
    rw [List.getD_eq_getElem?_getD, List.getD_eq_getElem?_getD, List.getElem?_map, List.getElem?_eq_getElem hj]
    rfl
  · rw [pu_no e, pu_no e, pu_no e]
    obtain ⟨q1, q2, q3⟩ := h1 c c0 (by omega)
    rw [tm 39 0 _ (by unfold XC XE XM; omega), tm 40 0 _ (by unfold XC XE XM; omega), tm 41 0 _ (by unfold XC XE XM; omega), tm 42 0 _ (by unfold XC XE XM; omega)]
    refine ⟨q1, q2, fun z => ⟨(q3 z).1, (q3 z).2.1, fun i i0 i1 => ?_⟩⟩
    have := g5 c c0 (by omega)
    rw [b2 i (by omega)]
    rw [show m 43 0 (100 * f + i) = μ 43 0 (100 * f + i) from m2 _ (by omega)]
    exact (q3 z).2.2 i i0 i1
theorem XC_XG {k : Nat} {i j : Int} (hc : 10 * f ≤ c ∧ c < 10 * f + 10) (h : XC f c k i j) : XG f k i j := by
  unfold XC XE XM at h; unfold XG; omega
theorem l_goes (hf : 0 ≤ f ∧ f ≤ 5) (hx : Txt ch n) : ∀ (k : Nat) (m : aM) (T : TDt) (l : Int), k ≤ 9 → MTx m ch n → (0 ≤ m 31 0 11 ∧ m 31 0 11 ≤ n) → (∀ k, 0 ≤ k → k < 16 → m 45 0 k = lets k) → TG T l → MP m f T l → T.1 + k = 9 → l ≤ m 31 0 11 →
    (∀ m', Tch (XG f) m m' → m' 31 0 11 = (nxtF ch n k (m 31 0 11) T l).2.1 → ((nxtF ch n k (m 31 0 11) T l).1 = true → MTn m' f (nxtF ch n k (m 31 0 11) T l).2.2.1) → Q (some (aI (b2 (nxtF ch n k (m 31 0 11) T l).1))) m') →
    Rn g (d + 6) m_M_goesText 15 [some (aR 31 0), some (aI f), some (aI T.1)] [] m Q := by
  intro k
  induction k with
  | zero =>
    intro m T l _ hc h0 hl hG hM hk hlp h
    have hx1 := hx.1
    have hG1 := hG.1
    have hG2 := hG.2.1
    have hcl := clau_sp hx (p := m 31 0 11) h0.1 h0.2
    have hcl1 := hcl.1
    have hs := hM.2
    refine B_M_goesText_15 (b1 := by omega) (b2 := by omega) (k1 := ?_)
    refine c_M_takesClause (d := d) (f := f) hf hc hx h0 (by omega) hl (by omega) (fun hb m1 t1 p1 => ?_) (fun hb m1 t1 p1 w1 v1 s1 e1 => ?_)
    · have e : nxtF ch n 0 (m 31 0 11) T l = (false, (clauF ch (m 31 0 11)).2.1, T, l) := by unfold nxtF; rw [if_neg (by rw [hb]; decide)]
      rw [e] at h
      have hq := h m1 (fun k i j hx' => t1 k i j (fun z => hx' (XC_XG (by omega) z))) p1 (fun q => absurd (show false = true from q) (by decide))
      exact B_M_goesText_25 (b1 := fun z => absurd rfl z) (b2 := fun z => absurd rfl z) (k1 := fun z => absurd rfl z) (k2 := fun z => absurd rfl z) (k3 := fun z => absurd rfl z) (k4 := fun _ => hq)
    · obtain ⟨r1, r2, r3, r4, r5⟩ := hcl.2 hb
      have e : nxtF ch n 0 (m 31 0 11) T l = (decide ((clauF ch (m 31 0 11)).2.1 = n), (clauF ch (m 31 0 11)).2.1, addT T l (clauF ch (m 31 0 11)), l + (clauF ch (m 31 0 11)).2.2.2.2.length) := by unfold nxtF; rw [if_pos hb]; rfl
      rw [e] at h
      have hM1 := MP.add hM hG (by omega) hcl hb (by omega) t1 w1 v1 s1 e1
      have tg : Tch (XG f) m (up m1 38 0 f (T.1 + 1)) := Tch.up (fun k i j hx' => t1 k i j (fun z => hx' (XC_XG (by omega) z))) (by unfold XG; omega)
      have hn : m1 31 0 10 = n := by rw [t1 31 0 10 (by unfold XC XE XM; omega)]; exact hc.1
      have hMT : MTn (up m1 38 0 f (T.1 + 1)) f (addT T l (clauF ch (m 31 0 11))) := by
        refine ⟨up_same, fun c c0 c1 => ?_⟩
        have := hM1.1 c c0 c1
        rw [up_other (by decide), up_other (by decide), up_other (by decide), up_other (by decide)]
        refine ⟨this.1, this.2.1, fun z => ⟨(this.2.2 z).1, (this.2.2 z).2.1, fun i i0 i1 => ?_⟩⟩
        rw [up_other (by decide)]; exact (this.2.2 z).2.2 i i0 i1
      have hq := h _ tg (by rw [up_other (by decide)]; exact p1) (fun _ => hMT)
      refine B_M_goesText_25 (b1 := fun _ => by omega) (b2 := fun _ => by omega) (k1 := fun _ z _ => ?_) (k2 := fun _ _ z => absurd (by omega) z) (k3 := fun _ z => ?_) (k4 := fun z => absurd z (by decide))
      · rw [decide_eq_false (by rw [p1, hn] at z; exact z)] at hq; exact hq
      · rw [decide_eq_true (by rw [p1, hn] at z; exact z)] at hq; exact hq
  | succ k ih =>
    intro m T l hk9 hc h0 hl hG hM hk hlp h
    have hx1 := hx.1
    have hG1 := hG.1
    have hG2 := hG.2.1
    have hcl := clau_sp hx (p := m 31 0 11) h0.1 h0.2
    have hcl1 := hcl.1
    have hs := hM.2
    refine B_M_goesText_15 (b1 := by omega) (b2 := by omega) (k1 := ?_)
    refine c_M_takesClause (d := d) (f := f) hf hc hx h0 (by omega) hl (by omega) (fun hb m1 t1 p1 => ?_) (fun hb m1 t1 p1 w1 v1 s1 e1 => ?_)
    · have e : nxtF ch n (k + 1) (m 31 0 11) T l = (false, (clauF ch (m 31 0 11)).2.1, T, l) := by unfold nxtF; rw [if_neg (by rw [hb]; decide)]
      rw [e] at h
      have hq := h m1 (fun k i j hx' => t1 k i j (fun z => hx' (XC_XG (by omega) z))) p1 (fun q => absurd (show false = true from q) (by decide))
      exact B_M_goesText_25 (b1 := fun z => absurd rfl z) (b2 := fun z => absurd rfl z) (k1 := fun z => absurd rfl z) (k2 := fun z => absurd rfl z) (k3 := fun z => absurd rfl z) (k4 := fun _ => hq)
    · obtain ⟨r1, r2, r3, r4, r5⟩ := hcl.2 hb
      have e : nxtF ch n (k + 1) (m 31 0 11) T l = (if ch (clauF ch (m 31 0 11)).2.1 = 59 then nxtF ch n k ((clauF ch (m 31 0 11)).2.1 + 1) (addT T l (clauF ch (m 31 0 11))) (l + (clauF ch (m 31 0 11)).2.2.2.2.length) else (decide ((clauF ch (m 31 0 11)).2.1 = n), (clauF ch (m 31 0 11)).2.1, addT T l (clauF ch (m 31 0 11)), l + (clauF ch (m 31 0 11)).2.2.2.2.length)) := by
        unfold nxtF; rw [if_pos hb]; rfl
      rw [e] at h
      have hG3 := TG.add hG (by omega) hcl hb (by omega)
      have hM1 := MP.add hM hG (by omega) hcl hb (by omega) t1 w1 v1 s1 e1
      have tg : Tch (XG f) m (up m1 38 0 f (T.1 + 1)) := Tch.up (fun k i j hx' => t1 k i j (fun z => hx' (XC_XG (by omega) z))) (by unfold XG; omega)
      have hn : m1 31 0 10 = n := by rw [t1 31 0 10 (by unfold XC XE XM; omega)]; exact hc.1
      have p2 : up m1 38 0 f (T.1 + 1) 31 0 11 = (clauF ch (m 31 0 11)).2.1 := (up_other (by decide)).trans p1
      have hMT : MTn (up m1 38 0 f (T.1 + 1)) f (addT T l (clauF ch (m 31 0 11))) := by
        refine ⟨up_same, fun c c0 c1 => ?_⟩
        have := hM1.1 c c0 c1
        rw [up_other (by decide), up_other (by decide), up_other (by decide), up_other (by decide)]
        refine ⟨this.1, this.2.1, fun z => ⟨(this.2.2 z).1, (this.2.2 z).2.1, fun i i0 i1 => ?_⟩⟩
        rw [up_other (by decide)]; exact (this.2.2 z).2.2 i i0 i1
      have c2 : MTx (up m1 38 0 f (T.1 + 1)) ch n := ⟨by rw [up_other (by decide)]; exact hn, fun p p0 p1 => by rw [tg 37 0 p (by unfold XG; omega)]; exact hc.2 p p0 p1⟩
      refine B_M_goesText_25 (b1 := fun _ => by omega) (b2 := fun _ => by omega) (k1 := fun _ _ z => absurd z (by omega)) (k2 := fun _ z _ => ?_) (k3 := fun _ z => ?_) (k4 := fun z => absurd z (by decide))
      · rw [p1, hn] at z
        refine Cal_le (show 2 ≤ d + 6 by omega) (c_M_takes (d := 0) c2 hx (by omega) (fun e4 => ?_) (fun e4 => ?_))
        · rw [p2] at e4
          have l4 := hx.lt (p := (clauF ch (m 31 0 11)).2.1) (by omega)
          rw [if_pos e4] at h
          refine B_M_goesText_65 (k1 := fun _ => ?_) (k2 := fun z => absurd z (by decide))
          have t5 : Tch (XG f) m (up (up m1 38 0 f (T.1 + 1)) 31 0 11 (up m1 38 0 f (T.1 + 1) 31 0 11 + 1)) := tg.up (by unfold XG; omega)
          have p5 : up (up m1 38 0 f (T.1 + 1)) 31 0 11 (up m1 38 0 f (T.1 + 1) 31 0 11 + 1) 31 0 11 = (clauF ch (m 31 0 11)).2.1 + 1 := by rw [up_same, p2]
          have M5 : MP (up (up m1 38 0 f (T.1 + 1)) 31 0 11 (up m1 38 0 f (T.1 + 1) 31 0 11 + 1)) f (addT T l (clauF ch (m 31 0 11))) (l + (clauF ch (m 31 0 11)).2.2.2.2.length) := by
            refine ⟨fun c c0 c1 => ?_, by rw [up_ne (by decide), up_other (by decide)]; exact hM1.2⟩
            have := hM1.1 c c0 c1
            rw [up_other (by decide), up_other (by decide), up_other (by decide), up_other (by decide), up_other (by decide), up_other (by decide), up_other (by decide), up_other (by decide)]
            refine ⟨this.1, this.2.1, fun z => ⟨(this.2.2 z).1, (this.2.2 z).2.1, fun i i0 i1 => ?_⟩⟩
            rw [up_other (by decide), up_other (by decide)]; exact (this.2.2 z).2.2 i i0 i1
          generalize up (up m1 38 0 f (T.1 + 1)) 31 0 11 (up m1 38 0 f (T.1 + 1) 31 0 11 + 1) = m5 at t5 p5 M5 ⊢
          refine ih m5 (addT T l (clauF ch (m 31 0 11))) (l + (clauF ch (m 31 0 11)).2.2.2.2.length) (by omega) ⟨by rw [t5 31 0 10 (by unfold XG; omega)]; exact hc.1, fun p p0 p1 => by rw [t5 37 0 p (by unfold XG; omega)]; exact hc.2 p p0 p1⟩ (by omega) (fun q q0 q1 => by rw [t5 45 0 q (by unfold XG; omega)]; exact hl q q0 q1) hG3 M5 (show T.1 + 1 + (k : Int) = 9 by omega) (by omega) (fun m' t' => ?_)
          rw [p5]
          exact h m' (t5.tr t')
        · rw [p2] at e4
          rw [if_neg e4] at h
          have hq := h _ tg p2 (fun _ => hMT)
          rw [decide_eq_false z] at hq
          exact B_M_goesText_65 (k1 := fun z => absurd rfl z) (k2 := fun _ => hq)
      · rw [p1, hn] at z
        have e4 : ch (clauF ch (m 31 0 11)).2.1 = -1 := hx.2.2 _ (by omega)
        rw [if_neg (by rw [e4]; decide)] at h
        have hq := h _ tg p2 (fun _ => hMT)
        rw [decide_eq_true z] at hq
        exact hq
theorem c_M_goesText (hf : 0 ≤ f ∧ f ≤ 5) (hx : Txt ch n) (hc : MTx μ ch n) (hl : ∀ k, 0 ≤ k → k < 16 → μ 45 0 k = lets k) (hT0 : T.1 = 0) (h : ∀ m', Tch (XG f) μ m' → m' 31 0 11 = (townF ch n T).2.1 → ((townF ch n T).1 = true → MTn m' f (townF ch n T).2.2.1) → Q (some (aI (b2 (townF ch n T).1))) m') : Cal g (d + 7) m_M_goesText [aR 31 0, aI f] μ Q := by
  have hx1 := hx.1
  refine T_M_goesText (d := d) (b1 := by omega) (k1 := ?_)
  have t1 : Tch (XG f) μ (up (up μ 31 0 11 0) 31 0 21 (100 * f)) := (Tch.rf.up (by unfold XG; omega)).up (by unfold XG; omega)
  have p1 : up (up μ 31 0 11 0) 31 0 21 (100 * f) 31 0 11 = 0 := by rw [up_ne (by decide), up_same]
  have s1 : up (up μ 31 0 11 0) 31 0 21 (100 * f) 31 0 21 = 100 * f + 0 := by rw [up_same]; omega
  generalize up (up μ 31 0 11 0) 31 0 21 (100 * f) = m1 at t1 p1 s1 ⊢
  have hG : TG T 0 := ⟨by omega, by omega, by rw [hT0]; rfl, fun c c0 c1 => absurd c1 (by omega)⟩
  have := l_goes (g := g) (d := d) (Q := Q) hf hx 9 m1 T 0 (by omega) ⟨by rw [t1 31 0 10 (by unfold XG; omega)]; exact hc.1, fun p p0 p1 => by rw [t1 37 0 p (by unfold XG; omega)]; exact hc.2 p p0 p1⟩ (by omega) (fun q q0 q1 => by rw [t1 45 0 q (by unfold XG; omega)]; exact hl q q0 q1) hG ⟨fun c c0 c1 => absurd c1 (by omega), s1⟩ (by rw [hT0]; rfl) (by omega) (fun m' t' => by rw [p1]; exact h m' (t1.tr t'))
  rw [hT0] at this
  exact this
theorem text_pl (hx : Txt ch n) : ∀ (k : Nat) (p : Int) (T : TDt) (l : Int), 0 ≤ p → p ≤ n → 0 ≤ (textF ch n k p T l).2.1 ∧ (textF ch n k p T l).2.1 ≤ n := by
  intro k
  induction k with
  | zero => intro p T l h0 h1; exact ⟨h0, h1⟩
  | succ k ih =>
    intro p T l h0 h1
    unfold textF
    by_cases e : ch p = 59
    · rw [if_pos e]
      have l1 := hx.lt (p := p) (by omega)
      have hcl := (clau_sp hx (p := p + 1) (by omega) (by omega)).1
      by_cases e2 : (clauF ch (p + 1)).1 = true
      · rw [if_pos e2]; exact ih _ _ _ (by omega) hcl.2
      · rw [if_neg e2]; exact ⟨by show 0 ≤ (clauF ch (p + 1)).2.1; omega, hcl.2⟩
    · rw [if_neg e]; exact ⟨h0, h1⟩
theorem town_pl (hx : Txt ch n) : 0 ≤ (townF ch n T).2.1 ∧ (townF ch n T).2.1 ≤ n := by
  have hx1 := hx.1
  have hcl := (clau_sp hx (p := 0) (by omega) (by omega)).1
  unfold townF
  by_cases e2 : (clauF ch 0).1 = true
  · rw [if_pos e2]; exact text_pl hx _ _ _ _ hcl.1 hcl.2
  · rw [if_neg e2]; exact hcl
def XW (t : Int) (k : Nat) (i j : Int) : Prop := (k = 19 ∧ i = 0 ∧ (j = 1 ∨ j = 2)) ∨ (14 ≤ k ∧ k ≤ 18 ∧ i = t) ∨ (i = 0 ∧ ((k = 1 ∧ j = 4) ∨ (k = 0 ∧ j = 5) ∨ (k = 31 ∧ (8 ≤ j ∧ j ≤ 12 ∨ (21 ≤ j ∧ j ≤ 23))) ∨ (k = 38 ∧ j = t) ∨ (39 ≤ k ∧ k ≤ 42 ∧ 10 * t ≤ j ∧ j < 10 * t + 10) ∨ (k = 43 ∧ 100 * t ≤ j ∧ j < 100 * t + 100) ∨ k = 44))
theorem Tch.wk {X Y : Nat → Int → Int → Prop} {m : aM} (h : Tch X μ m) (hs : ∀ k i j, X k i j → Y k i j) : Tch Y μ m := fun k i j hy => h k i j (fun z => hy (hs k i j z))
theorem XT_XW {k : Nat} {i j : Int} (h : XT t k i j) : XW t k i j := by
  rcases h with ⟨h1, h2, h3⟩ | h
  · exact Or.inl ⟨h1, h2, Or.inr h3⟩
  · exact Or.inr (Or.inl h)
theorem XG_XW {k : Nat} {i j : Int} (h : XG t k i j) : XW t k i j := by
  obtain ⟨hi, h⟩ := h
  refine Or.inr (Or.inr ⟨hi, Or.inr (Or.inr ?_)⟩)
  rcases h with ⟨h1, h2⟩ | h | h | h | h
  · refine Or.inl ⟨h1, ?_⟩
    rcases h2 with h2 | h2 | h2
    · exact Or.inl ⟨by omega, by omega⟩
    · exact Or.inl ⟨by omega, by omega⟩
    · exact Or.inr h2
  · exact Or.inr (Or.inl h)
  · exact Or.inr (Or.inr (Or.inl h))
  · exact Or.inr (Or.inr (Or.inr (Or.inl h)))
  · exact Or.inr (Or.inr (Or.inr (Or.inr h)))
theorem xw_19 : XW t 19 0 1 := Or.inl ⟨rfl, rfl, Or.inl rfl⟩
theorem xw_14 : XW t 1 0 4 := Or.inr (Or.inr ⟨rfl, Or.inl ⟨rfl, rfl⟩⟩)
theorem xw_05 : XW t 0 0 5 := Or.inr (Or.inr ⟨rfl, Or.inr (Or.inl ⟨rfl, rfl⟩)⟩)
theorem xw_31 {j : Int} (h : 8 ≤ j ∧ j ≤ 12) : XW t 31 0 j := Or.inr (Or.inr ⟨rfl, Or.inr (Or.inr (Or.inl ⟨rfl, Or.inl h⟩))⟩)
theorem xg_lo {k : Nat} {i j : Int} (h : k < 31) : ¬ XG t k i j := by intro z; unfold XG at z; omega
theorem xg_31 {j : Int} (h : 8 ≤ j ∧ j ≤ 10) : ¬ XG t 31 0 j := by intro z; unfold XG at z; omega
theorem xt_hi {k : Nat} {i j : Int} (h : 19 < k ∨ k < 14) : ¬ XT t k i j := by intro z; unfold XT at z; omega
theorem xt_191 : ¬ XT t 19 0 1 := by intro z; unfold XT at z; omega
end
