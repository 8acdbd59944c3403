/-! The reference reads a TOWN. -/
def XC (f c : Int) (k : Nat) (i j : Int) : Prop := XE f c k i j ∨ (i = 0 ∧ 39 ≤ k ∧ k ≤ 40 ∧ j = c)
def XG (f : Int) (k : Nat) (i j : Int) : Prop := i = 0 ∧ ((k = 31 ∧ (j = 11 ∨ j = 12 ∨ (21 ≤ j ∧ j ≤ 23))) ∨ (k = 38 ∧ j = f) ∨ (39 ≤ k ∧ k ≤ 42 ∧ 10 * f ≤ j ∧ j < 10 * f + 10) ∨ (k = 43 ∧ 100 * f ≤ j ∧ j < 100 * f + 100) ∨ k = 44)
def hdR (ch : Int → Int) (L : List Int) (p : Int) : Bool × Int := if preF ch L p = L.length then (if ch (p + L.length) = 32 then (true, p + L.length + 1) else (false, p + L.length)) else (false, p + preF ch L p)
def MP (m : aM) (f : Int) (T : TDt) (l : Int) : Prop := (∀ c, 0 ≤ c → c < T.1 → m 39 0 (10 * f + c) = T.2.1 c ∧ m 40 0 (10 * f + c) = T.2.2.1 c ∧ (T.2.1 c ≤ 1 → m 41 0 (10 * f + c) = 100 * f + frF T.2.2.2.1 c ∧ m 42 0 (10 * f + c) = 100 * f + T.2.2.2.1 c ∧ ∀ i, frF T.2.2.2.1 c ≤ i → i < T.2.2.2.1 c → m 43 0 (100 * f + i) = mtok (T.2.2.2.2 i))) ∧ m 31 0 21 = 100 * f + l
def nxtF (ch : Int → Int) (n : Int) (k : Nat) (p : Int) (T : TDt) (l : Int) : Bool × Int × TDt × Int := if (clauF ch p).1 = true then textF ch n k (clauF ch p).2.1 (addT T l (clauF ch p)) (l + (clauF ch p).2.2.2.2.length) else (false, (clauF ch p).2.1, T, l)
section
variable {g : aG} {d : Nat} {μ m0 : aM} {Q : aQ} {x f a b t c n p w o l fr : Int} {ch : Int → Int} {P : Int → Rs} {T : TDt}
theorem c_M_takes (hc : MTx μ ch n) (hx : Txt ch n) (h0 : 0 ≤ μ 31 0 11 ∧ μ 31 0 11 ≤ n) (hT : ch (μ 31 0 11) = x → Q (some (aI 1)) (up μ 31 0 11 (μ 31 0 11 + 1))) (hF : ch (μ 31 0 11) ≠ x → Q (some (aI 0)) μ) : Cal g (d + 2) m_M_takes [aR 31 0, aI x] μ Q := by
  have e := hc.nx hx h0.1
  have hx1 := hx.1
  have hc1 := hc.1
  exact T_M_takes (b1 := h0.1) (b2 := by omega) (b3 := by intros; omega) (k1 := fun z => hT (e.symm.trans z)) (k2 := fun z => hF (fun y => z (e.trans y)))
theorem c_M_takesWord {L : List Int} (hc : MTx μ ch n) (hx : Txt ch n) (h0 : 0 ≤ μ 31 0 11 ∧ μ 31 0 11 ≤ n) (hL : ∀ a ∈ L, 0 ≤ a) (hw : a = L.length) (hfr : 0 ≤ fr ∧ fr + L.length ≤ 16) (hl : ∀ i : Nat, i < L.length → μ 45 0 (fr + i) = L.getD i 0) (h : ∀ m, Tch (fun k i j => k = 31 ∧ i = 0 ∧ j = 11) μ m → m 31 0 11 = (hdR ch L (μ 31 0 11)).2 → Q (some (aI (b2 (hdR ch L (μ 31 0 11)).1))) m) : Cal g (d + 3) m_M_takesWord [aR 31 0, aI fr, aI a] μ Q := by
  have hx1 := hx.1
  have mt : ∀ m, Tch (fun k i j => k = 31 ∧ i = 0 ∧ j = 11) μ m → MTx m ch n := fun m tm => ⟨by rw [tm 31 0 10 (by omega)]; exact hc.1, fun p p0 p1 => by rw [tm 37 0 p (by omega)]; exact hc.2 p p0 p1⟩
  subst hw
  refine T_M_takesWord (d := d) (k1 := loopR (n := (L.length : Int)) (fun q (m : aM) => Rn g (d + 2) m_M_takesWord 2 [some (aR 31 0), some (aI fr), some (aI (L.length : Int)), some (aI q)] [] m Q) (fun q m => Tch (fun k i j => k = 31 ∧ i = 0 ∧ j = 11) μ m ∧ m 31 0 11 = μ 31 0 11 + q ∧ m 31 0 11 ≤ n ∧ ∀ i : Nat, (i : Int) < q → ch (μ 31 0 11 + i) = L.getD i 0) ?_ ?_ 0 μ (by omega) (by omega) ⟨Tch.rf, by omega, h0.2, fun i hi => absurd hi (by omega)⟩)
  · rintro q m q0 q1 ⟨tm, pm, pn, hq⟩ ih
    obtain ⟨k, rfl⟩ : ∃ k : Nat, q = (k : Int) := ⟨q.toNat, by omega⟩
    have el : m 45 0 (fr + k) = L.getD k 0 := by rw [tm 45 0 _ (by omega)]; exact hl k (by omega)
    refine B_M_takesWord_2 (k1 := fun z => absurd z (by omega)) (b1 := fun _ => by omega) (b2 := fun _ => by omega) (k2 := fun _ => ?_)
    rw [el]
    refine c_M_takes (d := d) (mt m tm) hx (by omega) (fun e => ?_) (fun e => ?_)
    · rw [pm] at e
      have hp : 0 ≤ L.getD k 0 := hL _ (by rw [List.getD_eq_getElem?_getD, List.getElem?_eq_getElem (by omega)]; exact List.getElem_mem _)
      have l1 := hx.lt (p := μ 31 0 11 + k) (by omega)
      refine B_M_takesWord_19 (b1 := fun _ => by omega) (k1 := fun _ => ih _ ⟨tm.up (by omega), by rw [up_same]; omega, by rw [up_same]; omega, fun i hi => ?_⟩) (k2 := fun z => absurd z (by decide))
      by_cases ei : i = k
      · rw [ei]; exact e
      · exact hq i (by omega)
    · rw [pm] at e
      refine B_M_takesWord_19 (b1 := fun z => absurd rfl z) (k1 := fun z => absurd rfl z) (k2 := fun _ => ?_)
      have ep := preF_eq (ch := ch) L k (μ 31 0 11) (by omega) (fun i hi => hq i (by omega)) (Or.inr e)
      have eh : hdR ch L (μ 31 0 11) = (false, μ 31 0 11 + k) := by unfold hdR; rw [ep, if_neg (by omega)]
      rw [eh] at h
      exact h m tm pm
  · rintro m ⟨tm, pm, pn, hq⟩
    have ep := preF_eq (ch := ch) L L.length (μ 31 0 11) (Nat.le_refl _) (fun i hi => hq i (by omega)) (Or.inl rfl)
    refine B_M_takesWord_2 (k1 := fun _ => ?_) (b1 := fun z => absurd z (by omega)) (b2 := fun z => absurd z (by omega)) (k2 := fun z => absurd z (by omega))
    refine c_M_takes (d := d) (mt m tm) hx (by omega) (fun e => ?_) (fun e => ?_)
    · rw [pm] at e
      have eh : hdR ch L (μ 31 0 11) = (true, μ 31 0 11 + L.length + 1) := by unfold hdR; rw [if_pos ep, if_pos e]
      rw [eh] at h
      exact B_M_takesWord_36 (b1 := Or.inr rfl) (k1 := h _ (tm.up (by omega)) (by rw [up_same, pm]))
    · rw [pm] at e
      have eh : hdR ch L (μ 31 0 11) = (false, μ 31 0 11 + L.length) := by unfold hdR; rw [if_pos ep, if_neg e]
      rw [eh] at h
      exact B_M_takesWord_36 (b1 := Or.inl rfl) (k1 := h _ tm pm)
theorem lets_w {w fr : Int} (hw : (w = 0 ∧ fr = 0) ∨ (w = 1 ∧ fr = 3) ∨ (w = 2 ∧ fr = 8) ∨ (w = 3 ∧ fr = 12)) (hl : ∀ k, 0 ≤ k → k < 16 → μ 45 0 k = lets k) : (0 ≤ fr ∧ fr + (wlist w).length ≤ 16) ∧ ∀ i : Nat, i < (wlist w).length → μ 45 0 (fr + i) = (wlist w).getD i 0 := by
  rcases hw with ⟨e, e2⟩ | ⟨e, e2⟩ | ⟨e, e2⟩ | ⟨e, e2⟩
  all_goals subst e
  all_goals subst e2
  · refine ⟨by decide, fun i hi => ?_⟩
    have hi : i < 3 := hi
    rw [hl _ (by omega) (by omega)]
    obtain e | e | e : i = 0 ∨ i = 1 ∨ i = 2 := by omega
    all_goals (subst e; rfl)
  · refine ⟨by decide, fun i hi => ?_⟩
    have hi : i < 5 := hi
    rw [hl _ (by omega) (by omega)]
    obtain e | e | e | e | e : i = 0 ∨ i = 1 ∨ i = 2 ∨ i = 3 ∨ i = 4 := by omega
    all_goals (subst e; rfl)
  · refine ⟨by decide, fun i hi => ?_⟩
    have hi : i < 4 := hi
    rw [hl _ (by omega) (by omega)]
    obtain e | e | e | e : i = 0 ∨ i = 1 ∨ i = 2 ∨ i = 3 := by omega
    all_goals (subst e; rfl)
  · refine ⟨by decide, fun i hi => ?_⟩
    have hi : i < 4 := hi
    rw [hl _ (by omega) (by omega)]
    obtain e | e | e | e : i = 0 ∨ i = 1 ∨ i = 2 ∨ i = 3 := by omega
    all_goals (subst e; rfl)
theorem c_M_takesHead (hc : MTx μ ch n) (hx : Txt ch n) (h0 : 0 ≤ μ 31 0 11 ∧ μ 31 0 11 ≤ n) (hcc : 0 ≤ c ∧ c < 60) (hl : ∀ k, 0 ≤ k → k < 16 → μ 45 0 k = lets k) (h : ∀ m, Tch (fun k i j => i = 0 ∧ ((k = 31 ∧ j = 11) ∨ (k = 39 ∧ j = c))) μ m → m 31 0 11 = (headF ch (μ 31 0 11)).2 → m 39 0 c = wsel ch (μ 31 0 11) → Q (some (aI (b2 (headF ch (μ 31 0 11)).1))) m) : Cal g (d + 4) m_M_takesHead [aR 31 0, aI c] μ Q := by
  have e0 := hc.nx hx h0.1
  have e1 := hc.nx hx (p := μ 31 0 11 + 1) (by omega)
  have hx1 := hx.1
  have hc1 := hc.1
  -- the word w is tried
  have go : ∀ (w fr : Int), ((w = 0 ∧ fr = 0) ∨ (w = 1 ∧ fr = 3) ∨ (w = 2 ∧ fr = 8) ∨ (w = 3 ∧ fr = 12)) → wsel ch (μ 31 0 11) = w → ∀ (a : Int) (Q' : aQ), a = (wlist w).length → (∀ b m, (b = 0 ∨ b = 1) → Q (some (aI b)) m → Q' (some (aI b)) m) → Cal g (d + 3) m_M_takesWord [aR 31 0, aI fr, aI a] (up μ 39 0 c w) Q' := by
    intro w fr hw ew a Q' ha hQ
    obtain ⟨q1, q2⟩ := lets_w (μ := μ) hw hl
    have p1 : up μ 39 0 c w 31 0 11 = μ 31 0 11 := up_other (by decide)
    refine c_M_takesWord (d := d) (L := wlist w) ⟨by rw [up_other (by decide)]; exact hc.1, fun p p0 p1 => by rw [up_other (by decide)]; exact hc.2 p p0 p1⟩ hx (by rw [p1]; exact h0) wlist_pos ha q1 (fun i hi => by rw [up_other (by decide)]; exact q2 i hi) (fun m tm pm => ?_)
    rw [p1] at pm ⊢
    have eh : hdR ch (wlist w) (μ 31 0 11) = headF ch (μ 31 0 11) := by unfold headF hdR; rw [ew]
    rw [eh] at pm ⊢
    refine hQ _ m (b2_01 _) (h m ((Tch.rf.up (by omega)).tr (fun k i j hx' => tm k i j (by omega))) pm ?_)
    rw [tm 39 0 c (by omega), up_same, ew]
  have w3 : up μ 39 0 c 3 39 0 c = 3 := up_same
  have w0 : up μ 39 0 c 0 39 0 c = 0 := up_same
  refine T_M_takesHead (d := d) (b1 := h0.1) (b2 := by omega) (b3 := fun _ => hcc) (k1 := fun z => ?_) (b4 := fun _ => hcc) (k2 := fun z => ?_) (b5 := fun _ _ => h0.1) (b6 := fun _ _ => by omega) (b7 := fun _ _ => by omega) (b8 := fun _ _ _ => hcc) (b9 := fun _ _ _ => hcc) (k3 := fun z1 z2 z3 z4 => ?_) (k4 := fun z1 z2 z3 z4 => absurd (w0.symm.trans z4) (by decide)) (b10 := fun _ _ _ => hcc) (b11 := fun _ _ _ => hcc) (k5 := fun z1 z2 z3 z4 => absurd w3 z4) (k6 := fun z1 z2 z3 z4 => ?_)
  · rw [e0] at z
    refine go 2 8 (Or.inr (Or.inr (Or.inl ⟨rfl, rfl⟩))) (by unfold wsel; rw [if_neg (by omega), if_pos z]) 4 _ rfl (fun b m hb hq => B_M_takesHead_60 (b1 := hb) (k1 := hq))
  · rw [e0] at z
    refine go 1 3 (Or.inr (Or.inl ⟨rfl, rfl⟩)) (by unfold wsel; rw [if_pos z]) 5 _ rfl (fun b m hb hq => B_M_takesHead_45 (b1 := hb) (k1 := hq))
  · rw [e0] at z1 z2
    rw [e1] at z3
    refine go 0 0 (Or.inl ⟨rfl, rfl⟩) (by unfold wsel; rw [if_neg z2, if_neg z1, if_neg z3]) 3 _ rfl (fun b m hb hq => B_M_takesHead_107 (b1 := hb) (k1 := hq))
  · rw [e0] at z1 z2
    rw [e1] at z3
    refine go 3 12 (Or.inr (Or.inr (Or.inr ⟨rfl, rfl⟩))) (by unfold wsel; rw [if_neg z2, if_neg z1, if_pos z3]) 4 _ rfl (fun b m hb hq => B_M_takesHead_98 (b1 := hb) (k1 := hq))
theorem c_M_takesClause (hf : 0 ≤ f ∧ f ≤ 5) (hc : MTx μ ch n) (hx : Txt ch n) (h0 : 0 ≤ μ 31 0 11 ∧ μ 31 0 11 ≤ n) (hcc : 0 ≤ c ∧ c < 60) (hl : ∀ k, 0 ≤ k → k < 16 → μ 45 0 k = lets k) (h4 : 100 * f ≤ μ 31 0 21 ∧ μ 31 0 21 ≤ 100 * f + μ 31 0 11)
    (hF : (clauF ch (μ 31 0 11)).1 = false → ∀ m, Tch (XC f c) μ m → m 31 0 11 = (clauF ch (μ 31 0 11)).2.1 → Q (some (aI 0)) m)
    (hT : (clauF ch (μ 31 0 11)).1 = true → ∀ m, Tch (XC f c) μ m → m 31 0 11 = (clauF ch (μ 31 0 11)).2.1 → m 39 0 c = (clauF ch (μ 31 0 11)).2.2.1 → m 40 0 c = (clauF ch (μ 31 0 11)).2.2.2.1 → (m 31 0 21, m 43 0) = ((clauF ch (μ 31 0 11)).2.2.2.2.map mtok).foldl emM (μ 31 0 21, μ 43 0) → ((clauF ch (μ 31 0 11)).2.2.1 ≤ 1 → m 41 0 c = μ 31 0 21 ∧ m 42 0 c = m 31 0 21) → Q (some (aI 1)) m) : Cal g (d + 6) m_M_takesClause [aR 31 0, aI c] μ Q := by
  have hx1 := hx.1
  have hW := wsel_rng (ch := ch) (p := μ 31 0 11)
  have hh := head_sp hx h0.2
  have fail : ∀ (q : Int) (m : aM), Tch (XC f c) μ m → m 31 0 11 = q → clauF ch (μ 31 0 11) = (false, q, 0, 0, []) → Q (some (aI 0)) m := fun q m tc hp e => by
    rw [e] at hF; exact hF rfl m tc hp
  have mt : ∀ m, Tch (XC f c) μ m → MTx m ch n := fun m tm => ⟨by rw [tm 31 0 10 (by unfold XC XE XM; omega)]; exact hc.1, fun p p0 p1 => by rw [tm 37 0 p (by unfold XC XE XM; omega)]; exact hc.2 p p0 p1⟩
  refine T_M_takesClause (d := d) (k1 := Cal_le (show d + 4 ≤ d + 5 by omega) (c_M_takesHead (d := d) hc hx h0 hcc hl (fun m1 t1 p1 w1 => ?_)))
  have T1' : Tch (XC f c) μ m1 := fun k i j hx' => t1 k i j (fun z => hx' (by unfold XC XE XM; omega))
  cases hb : (headF ch (μ 31 0 11)).1
  · refine B_M_takesClause_5 (k1 := fun _ => fail _ m1 T1' p1 ?_) (k2 := fun z => absurd rfl z)
    unfold clauF; rw [if_neg (by rw [hb]; decide)]
  · have hn := num_sp hx (p := (headF ch (μ 31 0 11)).2) (by omega) (by omega)
    refine B_M_takesClause_5 (k1 := fun z => absurd z (by decide)) (k2 := fun _ => ?_)
    refine Cal_le (show d + 3 ≤ d + 5 by omega) (c_M_takesNumber (d := d) (mt m1 T1') hx (by omega) (fun y m2 t2 p2 q2 => ?_) (fun y => ?_))
    · rw [p1] at y p2 q2
      have hn2 := hn.2.1 y
      have T2 : Tch (XC f c) μ (up m2 40 0 c (m2 31 0 12)) := (T1'.tr (fun k i j hx' => t2 k i j (fun z => hx' (by unfold XC XE XM; omega)))).up (by unfold XC XE XM; omega)
      have p3 : up m2 40 0 c (m2 31 0 12) 31 0 11 = (numF ch (headF ch (μ 31 0 11)).2).2 := (up_other (by decide)).trans p2
      have w2 : m2 39 0 c = wsel ch (μ 31 0 11) := (t2 39 0 c (by omega)).trans w1
      have w3 : up m2 40 0 c (m2 31 0 12) 39 0 c = wsel ch (μ 31 0 11) := (up_other (by decide)).trans w2
      have v3 : up m2 40 0 c (m2 31 0 12) 40 0 c = (numF ch (headF ch (μ 31 0 11)).2).1 := by rw [up_same, q2]
      have s3 : up m2 40 0 c (m2 31 0 12) 31 0 21 = μ 31 0 21 := by rw [up_other (by decide), t2 31 0 21 (by omega), t1 31 0 21 (by omega)]
      have r3 : up m2 40 0 c (m2 31 0 12) 43 0 = μ 43 0 := by rw [up_k (by decide), t2.row (fun j => by omega), t1.row (fun j => by omega)]
      refine B_M_takesClause_12 (b1 := fun _ => hcc) (b2 := fun _ => hcc) (k1 := fun _ y2 => ?_) (k2 := fun _ y2 => ?_) (k3 := fun z => absurd z (by decide))
      · rw [w2] at y2
        have e : clauF ch (μ 31 0 11) = (true, (numF ch (headF ch (μ 31 0 11)).2).2, wsel ch (μ 31 0 11), (numF ch (headF ch (μ 31 0 11)).2).1, []) := by
          unfold clauF; rw [if_pos hb, if_neg (by omega), if_pos y2]
        rw [e] at hT
        exact hT rfl _ T2 p3 w3 v3 (by rw [s3, r3]; rfl) (fun z => absurd z (by show ¬ (wsel ch (μ 31 0 11) ≤ 1); omega))
      · rw [w2] at y2
        generalize up m2 40 0 c (m2 31 0 12) = m3 at T2 p3 w3 v3 s3 r3 ⊢
        refine Cal_le (show 2 ≤ d + 5 by omega) (c_M_takes (d := 0) (mt m3 T2) hx (by omega) (fun e4 => ?_) (fun e4 => ?_))
        · rw [p3] at e4
          have l4 := hx.lt (p := (numF ch (headF ch (μ 31 0 11)).2).2) (by omega)
          have T4 : Tch (XC f c) μ (up m3 31 0 11 (m3 31 0 11 + 1)) := T2.up (by unfold XC XE XM; omega)
          have p4 : up m3 31 0 11 (m3 31 0 11 + 1) 31 0 11 = (numF ch (headF ch (μ 31 0 11)).2).2 + 1 := by rw [up_same, p3]
          have w4 : up m3 31 0 11 (m3 31 0 11 + 1) 39 0 c = wsel ch (μ 31 0 11) := (up_other (by decide)).trans w3
          have v4 : up m3 31 0 11 (m3 31 0 11 + 1) 40 0 c = (numF ch (headF ch (μ 31 0 11)).2).1 := (up_other (by decide)).trans v3
          have s4 : up m3 31 0 11 (m3 31 0 11 + 1) 31 0 21 = μ 31 0 21 := (up_ne (by decide)).trans s3
          have r4 : up m3 31 0 11 (m3 31 0 11 + 1) 43 0 = μ 43 0 := by rw [up_k (by decide)]; exact r3
          generalize up m3 31 0 11 (m3 31 0 11 + 1) = m4 at T4 p4 w4 v4 s4 r4 ⊢
          refine B_M_takesClause_43 (k1 := fun z => absurd z (by decide)) (k2 := fun _ => ?_)
          refine c_M_takesE (d := d) (f := f) hf hcc hx (mt m4 T4) (by omega) (by omega) (fun hb5 m5 t5 p5 => ?_) (fun hb5 m5 k5 t5 p5 a5 b5 => ?_)
          · rw [p4] at hb5 p5
            refine B_M_takesClause_51 (k1 := fun _ => fail _ m5 (T4.tr (fun k i j hx' => t5 k i j (fun z => hx' (Or.inl z)))) p5 ?_) (k2 := fun z => absurd rfl z)
            unfold clauF; rw [if_pos hb, if_neg (by omega), if_neg (by omega), if_pos e4, if_neg (by rw [hb5]; decide)]
          · rw [p4] at hb5 p5 k5
            rw [s4] at a5 k5
            rw [r4] at k5
            have e : clauF ch (μ 31 0 11) = (true, (eithF ch (partF ch 4) ((numF ch (headF ch (μ 31 0 11)).2).2 + 1)).2.1, wsel ch (μ 31 0 11), (numF ch (headF ch (μ 31 0 11)).2).1, (eithF ch (partF ch 4) ((numF ch (headF ch (μ 31 0 11)).2).2 + 1)).2.2) := by
              unfold clauF; rw [if_pos hb, if_neg (by omega), if_neg (by omega), if_pos e4, if_pos hb5]
            rw [e] at hT
            refine B_M_takesClause_51 (k1 := fun z => absurd z (by decide)) (k2 := fun _ => ?_)
            exact hT rfl m5 (T4.tr (fun k i j hx' => t5 k i j (fun z => hx' (Or.inl z)))) p5 ((t5 39 0 c (by unfold XE XM; omega)).trans w4) ((t5 40 0 c (by unfold XE XM; omega)).trans v4) k5 (fun _ => ⟨a5, b5⟩)
        · rw [p3] at e4
          refine B_M_takesClause_43 (k1 := fun _ => fail _ m3 T2 p3 ?_) (k2 := fun z => absurd rfl z)
          unfold clauF; rw [if_pos hb, if_neg (by omega), if_neg (by omega), if_neg e4]
    · rw [p1] at y
      refine B_M_takesClause_12 (b1 := fun z => absurd rfl z) (b2 := fun z => absurd rfl z) (k1 := fun z => absurd rfl z) (k2 := fun z => absurd rfl z) (k3 := fun _ => fail _ m1 T1' p1 ?_)
      unfold clauF; rw [if_pos hb, if_pos y]
end
