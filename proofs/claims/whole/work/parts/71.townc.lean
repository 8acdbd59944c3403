/-! The class reads a TOWN. -/
def XT (t : Int) (k : Nat) (i j : Int) : Prop := (k = 19 ∧ i = 0 ∧ j = 2) ∨ (14 ≤ k ∧ k ≤ 18 ∧ i = t)
section
variable {g : aG} {d : Nat} {μ m0 : aM} {Q : aQ} {x f a b k i t c n p w o l : Int} {ch : Int → Int} {P : Int → Rs} {T : TDt}
theorem preF_eq : ∀ (L : List Int) (k : Nat) (p : Int), k ≤ L.length → (∀ i : Nat, i < k → ch (p + i) = L.getD i 0) → (k = L.length ∨ ch (p + k) ≠ L.getD k 0) → preF ch L p = k := by
  intro L
  induction L with
  | nil =>
    intro k p hk _ _
    have : k = 0 := Nat.le_zero.mp hk
    subst this; rfl
  | cons a L ih =>
    intro k p hk h1 h2
    cases k with
    | zero =>
      unfold preF
      rcases h2 with h2 | h2
      · exact absurd h2 (by simp)
      · rw [show p + ((0 : Nat) : Int) = p by omega] at h2
        rw [if_neg (show ¬ ch p = a from h2)]; rfl
    | succ k =>
      have e0 := h1 0 (by omega)
      rw [show p + ((0 : Nat) : Int) = p by omega] at e0
      unfold preF
      rw [if_pos (show ch p = a from e0)]
      have e1 : preF ch L (p + 1) = k := by
        refine ih k (p + 1) (by simpa using hk) (fun q hq => ?_) ?_
        · have := h1 (q + 1) (by omega)
          rw [show p + 1 + (q : Int) = p + ((q + 1 : Nat) : Int) by omega, this]; rfl
        · rcases h2 with h2 | h2
          · left; simpa using h2
          · right; rw [show p + 1 + (k : Int) = p + ((k + 1 : Nat) : Int) by omega]; exact h2
      rw [e1]; omega
theorem fget_w (ha : 0 ≤ a ∧ a ≤ 3) (j : Nat) : fget g 102 a (j : Int) = (wlist a).getD j 0 := by
  obtain e | e | e | e : a = 0 ∨ a = 1 ∨ a = 2 ∨ a = 3 := by omega
  all_goals (subst e; rfl)
theorem flen_w (ha : 0 ≤ a ∧ a ≤ 3) : flen g 102 a = ((wlist a).length : Int) := by
  obtain e | e | e | e : a = 0 ∨ a = 1 ∨ a = 2 ∨ a = 3 := by omega
  all_goals (subst e; rfl)
theorem wl_len (ha : 0 ≤ a ∧ a ≤ 3) : 3 ≤ (wlist a).length ∧ (wlist a).length ≤ 5 := by
  obtain e | e | e | e : a = 0 ∨ a = 1 ∨ a = 2 ∨ a = 3 := by omega
  all_goals (subst e; decide)
theorem c_alike (hc : CTx μ ch n) (hx : Txt ch n) (h0 : 0 ≤ μ 19 0 2 ∧ μ 19 0 2 ≤ n) (ha : 0 ≤ a ∧ a ≤ 3) (h : Q (some (aI (preF ch (wlist a) (μ 19 0 2)))) μ) : Cal g (d + 5) m_Re_alike [aR 19 0, aR 101 a] μ Q := by
  have hx1 := hx.1
  have hc1 := hc.1
  have fl := flen_w (g := g) ha
  have wl := wl_len ha
  have em : i_min (flen g 102 a) (μ 19 0 1 - μ 19 0 2) = (if μ 19 0 1 - μ 19 0 2 < flen g 102 a then μ 19 0 1 - μ 19 0 2 else flen g 102 a) := rfl
  refine T_Re_alike (d := d) (b1 := by omega) (b2 := by omega) (k1 := ?_)
  have hm : 0 ≤ i_min (flen g 102 a) (μ 19 0 1 - μ 19 0 2) ∧ i_min (flen g 102 a) (μ 19 0 1 - μ 19 0 2) ≤ flen g 102 a ∧ i_min (flen g 102 a) (μ 19 0 1 - μ 19 0 2) ≤ n - μ 19 0 2 ∧ (i_min (flen g 102 a) (μ 19 0 1 - μ 19 0 2) = flen g 102 a ∨ i_min (flen g 102 a) (μ 19 0 1 - μ 19 0 2) = n - μ 19 0 2) := by
    rw [em]; split <;> omega
  generalize i_min (flen g 102 a) (μ 19 0 1 - μ 19 0 2) = mo at hm ⊢
  refine loopR (n := mo) (fun q (m : aM) => Rn g (d + 4) m_Re_alike 19 [some (aR 19 0), some (aR 101 a), some (aI mo), some (aI q)] [] m Q) (fun q m => m = μ ∧ ∀ i : Nat, (i : Int) < q → ch (μ 19 0 2 + i) = (wlist a).getD i 0) ?_ ?_ 0 μ (by omega) hm.1 ⟨rfl, fun i hi => absurd hi (by omega)⟩
  · rintro q m q0 q1 ⟨rfl, hq⟩ ih
    obtain ⟨k, rfl⟩ : ∃ k : Nat, q = (k : Int) := ⟨q.toNat, by omega⟩
    have ec := hc.2 (m 19 0 2 + k) (by omega) (by omega)
    refine B_Re_alike_19 (b1 := fun _ => by omega) (b2 := fun _ => by omega) (b3 := fun _ => by omega) (b4 := fun _ => by omega) (b5 := fun _ _ => by omega) (k1 := fun z => absurd z (by omega)) (k2 := fun _ z => ih _ ⟨rfl, fun i hi => ?_⟩) (k3 := fun _ z => ?_)
    · by_cases e : i = k
      · rw [e, ← ec, z, fget_w ha]
      · exact hq i (by omega)
    · rw [ec, fget_w ha] at z
      have := preF_eq (ch := ch) (wlist a) k (m 19 0 2) (by omega) (fun i hi => hq i (by omega)) (Or.inr z)
      rw [this] at h; exact h
  · rintro m ⟨rfl, hq⟩
    obtain ⟨k, ek⟩ : ∃ k : Nat, mo = (k : Int) := ⟨mo.toNat, by omega⟩
    refine B_Re_alike_19 (b1 := fun z => absurd z (by omega)) (b2 := fun z => absurd z (by omega)) (b3 := fun z => absurd z (by omega)) (b4 := fun z => absurd z (by omega)) (b5 := fun z => absurd z (by omega)) (k1 := fun _ => ?_) (k2 := fun z => absurd z (by omega)) (k3 := fun z => absurd z (by omega))
    have := preF_eq (ch := ch) (wlist a) k (m 19 0 2) (by omega) (fun i hi => hq i (by omega)) (by
      rcases hm.2.2.2 with e | e
      · left; omega
      · by_cases e2 : k = (wlist a).length
        · left; exact e2
        · right
          have e3 := hx.2.2 (m 19 0 2 + k) (by omega)
          rw [e3]
          have hp := wlist_pos (w := a) ((wlist a).getD k 0) (by rw [List.getD_eq_getElem?_getD, List.getElem?_eq_getElem (by omega)]; exact List.getElem_mem _)
          omega)
    rw [this, ← ek] at h; exact h
/-- the word that the signs choose is the one that goes farthest -/
theorem pre_c {b : Int} {L : List Int} : preF ch (b :: L) p = if ch p = b then 1 + preF ch L (p + 1) else 0 := rfl
theorem wsel_far (ha : 0 ≤ a ∧ a ≤ 3) (hne : a ≠ wsel ch p) : preF ch (wlist a) p < (wlist a).length ∧ preF ch (wlist a) p ≤ preF ch (wlist (wsel ch p)) p := by
  have h0 := preF_sp (ch := ch) (wlist (wsel ch p)) p
  have wl := wl_len ha
  unfold wsel at hne ⊢ h0
  by_cases e1 : ch p = 104
  · rw [if_pos e1] at hne h0 ⊢
    have : preF ch (wlist a) p = 0 := by
      obtain e | e | e | e : a = 0 ∨ a = 1 ∨ a = 2 ∨ a = 3 := by omega
      · subst e; show preF ch [108, 97, 103] p = 0; rw [pre_c, if_neg (by omega)]
      · exact absurd e hne
      · subst e; show preF ch [102, 97, 115, 116] p = 0; rw [pre_c, if_neg (by omega)]
      · subst e; show preF ch [108, 111, 117, 100] p = 0; rw [pre_c, if_neg (by omega)]
    omega
  · rw [if_neg e1] at hne h0 ⊢
    by_cases e2 : ch p = 102
    · rw [if_pos e2] at hne h0 ⊢
      have : preF ch (wlist a) p = 0 := by
        obtain e | e | e | e : a = 0 ∨ a = 1 ∨ a = 2 ∨ a = 3 := by omega
        · subst e; show preF ch [108, 97, 103] p = 0; rw [pre_c, if_neg (by omega)]
        · subst e; show preF ch [104, 97, 115, 116, 101] p = 0; rw [pre_c, if_neg (by omega)]
        · exact absurd e hne
        · subst e; show preF ch [108, 111, 117, 100] p = 0; rw [pre_c, if_neg (by omega)]
      omega
    · rw [if_neg e2] at hne h0 ⊢
      by_cases e3 : ch (p + 1) = 111
      · rw [if_pos e3] at hne h0 ⊢
        obtain e | e | e | e : a = 0 ∨ a = 1 ∨ a = 2 ∨ a = 3 := by omega
        · subst e
          have q := preF_sp (ch := ch) [117, 100] (p + 1 + 1)
          have e4 : preF ch (wlist 3) p = if ch p = 108 then 1 + (if ch (p + 1) = 111 then 1 + preF ch [117, 100] (p + 1 + 1) else 0) else 0 := by show preF ch [108, 111, 117, 100] p = _; rw [pre_c, pre_c]
          have e5 : preF ch (wlist 0) p = if ch p = 108 then 1 + (if ch (p + 1) = 97 then 1 + preF ch [103] (p + 1 + 1) else 0) else 0 := by show preF ch [108, 97, 103] p = _; rw [pre_c, pre_c]
          rw [if_pos e3] at e4
          rw [if_neg (show ¬ ch (p + 1) = 97 by omega)] at e5
          rw [e4, e5]
          split <;> omega
        · subst e; have : preF ch (wlist 1) p = 0 := by show preF ch [104, 97, 115, 116, 101] p = 0; rw [pre_c, if_neg (by omega)]
          omega
        · subst e; have : preF ch (wlist 2) p = 0 := by show preF ch [102, 97, 115, 116] p = 0; rw [pre_c, if_neg (by omega)]
          omega
        · exact absurd e hne
      · rw [if_neg e3] at hne h0 ⊢
        obtain e | e | e | e : a = 0 ∨ a = 1 ∨ a = 2 ∨ a = 3 := by omega
        · exact absurd e hne
        · subst e; have : preF ch (wlist 1) p = 0 := by show preF ch [104, 97, 115, 116, 101] p = 0; rw [pre_c, if_neg (by omega)]
          omega
        · subst e; have : preF ch (wlist 2) p = 0 := by show preF ch [102, 97, 115, 116] p = 0; rw [pre_c, if_neg (by omega)]
          omega
        · subst e
          have q := preF_sp (ch := ch) [97, 103] (p + 1)
          have e4 : preF ch (wlist 0) p = if ch p = 108 then 1 + preF ch [97, 103] (p + 1) else 0 := by show preF ch [108, 97, 103] p = _; rw [pre_c]
          have e5 : preF ch (wlist 3) p = if ch p = 108 then 1 + (if ch (p + 1) = 111 then 1 + preF ch [117, 100] (p + 1 + 1) else 0) else 0 := by show preF ch [108, 111, 117, 100] p = _; rw [pre_c, pre_c]
          rw [if_neg e3] at e5
          rw [e4, e5]
          split <;> omega
theorem c_spell (ha : 0 ≤ a ∧ a ≤ 3) (h : Q (some (aR 101 a)) μ) : Cal g (d + 1) m_Re_spelling [aI a] μ Q := by
  obtain e | e | e | e : a = 0 ∨ a = 1 ∨ a = 2 ∨ a = 3 := by omega
  · subst e; exact T_Re_spelling (d := d) (k1 := fun _ => h) (k2 := fun z => absurd z (by decide)) (k3 := fun z => absurd z (by decide)) (k4 := fun z => absurd rfl z)
  · subst e; exact T_Re_spelling (d := d) (k1 := fun z => absurd z (by decide)) (k2 := fun _ => h) (k3 := fun z => absurd z (by decide)) (k4 := fun _ z => absurd rfl z)
  · subst e; exact T_Re_spelling (d := d) (k1 := fun z => absurd z (by decide)) (k2 := fun z => absurd z (by decide)) (k3 := fun _ => h) (k4 := fun _ _ z => absurd rfl z)
  · subst e; exact T_Re_spelling (d := d) (k1 := fun z => absurd z (by decide)) (k2 := fun z => absurd z (by decide)) (k3 := fun z => absurd z (by decide)) (k4 := fun _ _ _ => h)
theorem c_readWord (hc : CTx μ ch n) (hx : Txt ch n) (h0 : 0 ≤ μ 19 0 2 ∧ μ 19 0 2 ≤ n) (hok : preF ch (wlist (wsel ch (μ 19 0 2))) (μ 19 0 2) = (wlist (wsel ch (μ 19 0 2))).length → Q (some (aI (wsel ch (μ 19 0 2)))) (up μ 19 0 2 (μ 19 0 2 + (wlist (wsel ch (μ 19 0 2))).length))) (hno : preF ch (wlist (wsel ch (μ 19 0 2))) (μ 19 0 2) ≠ (wlist (wsel ch (μ 19 0 2))).length → Q (some (aI (-1))) (up μ 19 0 2 (μ 19 0 2 + preF ch (wlist (wsel ch (μ 19 0 2))) (μ 19 0 2)))) : Cal g (d + 6) m_Re_readWord [aR 19 0] μ Q := by
  have hx1 := hx.1
  have hW := wsel_rng (ch := ch) (p := μ 19 0 2)
  have hs := preF_sp (ch := ch) (wlist (wsel ch (μ 19 0 2))) (μ 19 0 2)
  have hwl := wl_len hW
  refine T_Re_readWord (d := d) (k1 := loopR (n := 4) (fun q (y : Int) => Rn g (d + 5) m_Re_readWord 4 [some (aR 19 0), some (aI y), some (aI q), none, none] [] μ Q) (fun q y => (0 ≤ y ∧ y ≤ preF ch (wlist (wsel ch (μ 19 0 2))) (μ 19 0 2)) ∧ (wsel ch (μ 19 0 2) < q → y = preF ch (wlist (wsel ch (μ 19 0 2))) (μ 19 0 2) ∧ preF ch (wlist (wsel ch (μ 19 0 2))) (μ 19 0 2) ≠ (wlist (wsel ch (μ 19 0 2))).length)) ?_ ?_ 0 0 (by omega) (by omega) ⟨by omega, fun z => absurd z (by omega)⟩)
  · rintro q y q0 q1 ⟨hy, hq⟩ ih
    have hs2 := preF_sp (ch := ch) (wlist q) (μ 19 0 2)
    have fl := flen_w (g := g) (a := q) (by omega)
    have wl := wl_len (a := q) (by omega)
    refine B_Re_readWord_4 (b1 := fun z => absurd z (by omega)) (k1 := fun z => absurd z (by omega)) (k2 := fun _ => Cal_le (show 1 ≤ d + 5 by omega) (c_spell (d := 0) (by omega) (B_Re_readWord_13 (k1 := c_alike (d := d) hc hx h0 (by omega) (B_Re_readWord_19 (b1 := ?_) (b2 := ?_) (k1 := fun z => ih _ ⟨?_, fun z2 => ?_⟩) (b3 := ?_) (k2 := fun z => ?_))))))
    · clear hq ih; omega
    · clear hq ih; intros; omega
    · by_cases e : q = wsel ch (μ 19 0 2)
      · rw [e] at hs2 ⊢; unfold i_max; clear hq ih; split <;> omega
      · have := wsel_far (ch := ch) (p := μ 19 0 2) (a := q) (by omega) e
        unfold i_max; clear hq ih; split <;> omega
    · by_cases e : q = wsel ch (μ 19 0 2)
      · rw [e] at z fl ⊢
        refine ⟨?_, by rw [fl] at z; exact z⟩
        unfold i_max; clear hq ih; split <;> omega
      · have := wsel_far (ch := ch) (p := μ 19 0 2) (a := q) (by omega) e
        obtain ⟨g1, g2⟩ := hq (by clear hq ih; omega)
        refine ⟨?_, g2⟩
        unfold i_max; clear hq ih; split <;> omega
    · clear hq ih; intros; omega
    · have e : q = wsel ch (μ 19 0 2) := by
        by_cases e : q = wsel ch (μ 19 0 2)
        · exact e
        · have := wsel_far (ch := ch) (p := μ 19 0 2) (a := q) (by omega) e
          clear hq ih; omega
      rw [fl] at z
      rw [z]
      rw [e] at z ⊢
      exact hok z
  · rintro y ⟨hy, hq⟩
    obtain ⟨g1, g2⟩ := hq (by omega)
    clear hq
    refine B_Re_readWord_4 (b1 := fun _ => by omega) (k1 := fun _ => ?_) (k2 := fun z => absurd z (by omega))
    rw [g1]; exact hno g2
end
