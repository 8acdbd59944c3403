/-! How a TOWN is read, as a function of the signs. -/
abbrev Rs : Type := Bool × Int × List Int
abbrev dgt (x : Int) : Prop := 48 ≤ x ∧ x ≤ 57
def numF (ch : Int → Int) (p : Int) : Int × Int := if dgt (ch p) then (if dgt (ch (p + 1)) then (10 * (ch p - 48) + ch (p + 1) - 48, p + 2) else (ch p - 48, p + 1)) else (-1, p)
def tokF (l s k : Int) : Int := 512 * l + 128 * s + k
def testF (ch : Int → Int) (p : Int) : Rs := if placeF (ch p) < 0 then (false, p, []) else if ¬ (60 ≤ ch (p + 1) ∧ ch (p + 1) ≤ 62) then (false, p + 1, []) else if (numF ch (p + 2)).1 < 0 then (false, p + 2, []) else (true, (numF ch (p + 2)).2, [tokF (placeF (ch p)) (ch (p + 1) - 60) (numF ch (p + 2)).1])
def loopF (ch : Int → Int) (P : Int → Rs) : Nat → Int → List Int → Bool → Rs
  | 0, p, c, o => (true, p, c ++ (if o = true then [-3] else []))
  | k + 1, p, c, o => if ch p = 38 then (if (P (p + 1)).1 = true then loopF ch P k (P (p + 1)).2.1 (c ++ ((P (p + 1)).2.2 ++ [-2])) o else (false, (P (p + 1)).2.1, [])) else if ch p = 124 then (if (P (p + 1)).1 = true then loopF ch P k (P (p + 1)).2.1 (c ++ ((if o = true then [-3] else []) ++ (P (p + 1)).2.2)) true else (false, (P (p + 1)).2.1, [])) else (true, p, c ++ (if o = true then [-3] else []))
def eithF (ch : Int → Int) (P : Int → Rs) (p : Int) : Rs := if (P p).1 = true then loopF ch P 100 (P p).2.1 (P p).2.2 false else (false, (P p).2.1, [])
def partF (ch : Int → Int) : Nat → Int → Rs
  | 0, p => testF ch p
  | v + 1, p => if ch p = 33 then (if (partF ch v (p + 1)).1 = true then (true, (partF ch v (p + 1)).2.1, (partF ch v (p + 1)).2.2 ++ [-1]) else (false, (partF ch v (p + 1)).2.1, [])) else if ch p = 40 then (if (eithF ch (partF ch v) (p + 1)).1 = true then (if ch (eithF ch (partF ch v) (p + 1)).2.1 = 41 then (true, (eithF ch (partF ch v) (p + 1)).2.1 + 1, (eithF ch (partF ch v) (p + 1)).2.2) else (false, (eithF ch (partF ch v) (p + 1)).2.1, [])) else (false, (eithF ch (partF ch v) (p + 1)).2.1, [])) else testF ch p
def Txt (ch : Int → Int) (n : Int) : Prop := (0 ≤ n ∧ n ≤ 100) ∧ (∀ p, 0 ≤ p → p < n → 0 ≤ ch p ∧ ch p ≤ 127) ∧ ∀ p, n ≤ p → ch p = -1
def wfT : Int → List Int → Int → Prop
  | k, [], e => k = e
  | k, t :: c, e => tkOk k t ∧ wfT (dS k t) c e
/-- what a reader keeps to -/
def Gd (n : Int) (p : Int) (w : Int) (r : Rs) : Prop := (p ≤ r.2.1 ∧ r.2.1 ≤ n) ∧ (r.1 = true → p < r.2.1 ∧ (r.2.2.length : Int) ≤ r.2.1 - p ∧ ∀ k, 0 ≤ k → k ≤ w → wfT k r.2.2 (k + 1))
section
variable {ch : Int → Int} {n p k w e : Int} {P : Int → Rs}
theorem Txt.lt (h : Txt ch n) {p : Int} (hp : 0 ≤ ch p) : p < n := by
  by_cases e : p < n
  · exact e
  · have := h.2.2 p (by omega); omega
theorem wfT_app {a b : List Int} {k m e : Int} (h : wfT k a m) (h2 : wfT m b e) : wfT k (a ++ b) e := by
  induction a generalizing k with
  | nil => have : k = m := h; subst this; exact h2
  | cons t a ih => exact ⟨h.1, ih h.2⟩
theorem placeF_rng {x : Int} : -1 ≤ placeF x ∧ placeF x ≤ 5 := by
  unfold placeF
  repeat' split
  all_goals omega
theorem placeF_pos {x : Int} (h : 0 ≤ placeF x) : 0 ≤ x := by
  by_cases e : x < 0
  · exfalso
    revert h; unfold placeF
    repeat' split
    all_goals omega
  · omega
theorem num_sp (h : Txt ch n) (h0 : 0 ≤ p) (hp : p ≤ n) : (p ≤ (numF ch p).2 ∧ (numF ch p).2 ≤ n) ∧ (0 ≤ (numF ch p).1 → p < (numF ch p).2 ∧ (numF ch p).1 ≤ 99) ∧ -1 ≤ (numF ch p).1 ∧ ((numF ch p).1 < 0 → (numF ch p).2 = p) := by
  unfold numF
  by_cases e : dgt (ch p)
  · have l1 := h.lt (p := p) (by unfold dgt at e; omega)
    rw [if_pos e]
    by_cases e2 : dgt (ch (p + 1))
    · have l2 := h.lt (p := p + 1) (by unfold dgt at e2; omega)
      rw [if_pos e2]
      unfold dgt at e e2
      dsimp only; omega
    · rw [if_neg e2]
      unfold dgt at e
      dsimp only; omega
  · rw [if_neg e]; dsimp only; omega
theorem test_gd (h : Txt ch n) (h0 : 0 ≤ p) (hp : p ≤ n) : Gd n p 50 (testF ch p) := by
  unfold testF
  by_cases e : placeF (ch p) < 0
  · rw [if_pos e]; exact ⟨⟨Int.le_refl _, hp⟩, fun z => absurd (show false = true from z) (by decide)⟩
  · have l1 := h.lt (placeF_pos (by omega : 0 ≤ placeF (ch p)))
    rw [if_neg e]
    by_cases e2 : 60 ≤ ch (p + 1) ∧ ch (p + 1) ≤ 62
    · have l2 := h.lt (p := p + 1) (by omega)
      rw [if_neg (fun z => z e2)]
      have hn := num_sp h (p := p + 2) (by omega) (by omega)
      by_cases e3 : (numF ch (p + 2)).1 < 0
      · rw [if_pos e3]; exact ⟨⟨by show p ≤ p + 2; omega, by show p + 2 ≤ n; omega⟩, fun z => absurd (show false = true from z) (by decide)⟩
      · rw [if_neg e3]
        have h3 := hn.2.1 (by omega)
        refine ⟨⟨by show p ≤ (numF ch (p + 2)).2; omega, hn.1.2⟩, fun _ => ⟨by show p < (numF ch (p + 2)).2; omega, by show ((1 : Nat) : Int) ≤ (numF ch (p + 2)).2 - p; omega, fun k k0 k1 => ?_⟩⟩
        have hl := placeF_rng (x := ch p)
        have ht : tkOk k (tokF (placeF (ch p)) (ch (p + 1) - 60) (numF ch (p + 2)).1) := Or.inr (Or.inr (by unfold tokF; omega))
        refine ⟨ht, ?_⟩
        show dS k _ = k + 1
        unfold dS tokF
        rw [if_neg (by omega), if_neg (by omega)]
    · rw [if_pos e2]; exact ⟨⟨by show p ≤ p + 1; omega, by show p + 1 ≤ n; omega⟩, fun z => absurd (show false = true from z) (by decide)⟩
theorem wf_or {k : Int} (o : Bool) (h0 : 0 ≤ k) : wfT (k + 1 + (if o = true then 1 else 0)) (if o = true then [-3] else []) (k + 1) := by
  cases o
  · show k + 1 + 0 = k + 1; omega
  · refine ⟨Or.inr (Or.inl ⟨Or.inr rfl, ?_⟩), ?_⟩
    · show 2 ≤ k + 1 + 1; omega
    · show dS (k + 1 + 1) (-3) = k + 1
      unfold dS; rw [if_neg (by decide), if_pos (Or.inr rfl)]; omega
theorem loop_gd (h : Txt ch n) (hw : 0 ≤ w) (hP : ∀ p, 0 ≤ p → p ≤ n → Gd n p (w + 2) (P p)) : ∀ (f : Nat) (q : Int) (c : List Int) (o : Bool), 0 ≤ p → p < q → q ≤ n → (c.length : Int) + (if o = true then 1 else 0) ≤ q - p → (∀ k, 0 ≤ k → k ≤ w → wfT k c (k + 1 + (if o = true then 1 else 0))) → Gd n p w (loopF ch P f q c o) := by
  intro f
  have base : ∀ (q : Int) (c : List Int) (o : Bool), 0 ≤ p → p < q → q ≤ n → (c.length : Int) + (if o = true then 1 else 0) ≤ q - p → (∀ k, 0 ≤ k → k ≤ w → wfT k c (k + 1 + (if o = true then 1 else 0))) → Gd n p w (true, q, c ++ (if o = true then [-3] else [])) := by
    intro q c o h0 hpq hq hl hwf
    refine ⟨⟨by show p ≤ q; omega, hq⟩, fun _ => ⟨hpq, ?_, fun k k0 k1 => wfT_app (hwf k k0 k1) (wf_or o k0)⟩⟩
    show ((c ++ (if o = true then [-3] else [])).length : Int) ≤ q - p
    rw [List.length_append]
    cases o
    · simp at hl ⊢; omega
    · simp at hl ⊢; omega
  induction f with
  | zero => exact base
  | succ f ih =>
    intro q c o h0 hpq hq hl hwf
    unfold loopF
    by_cases e1 : ch q = 38
    · rw [if_pos e1]
      have l1 := h.lt (p := q) (by omega)
      have hg := hP (q + 1) (by omega) (by omega)
      have hg1 := hg.1
      by_cases e2 : (P (q + 1)).1 = true
      · rw [if_pos e2]
        obtain ⟨g1, g2, g3⟩ := hg.2 e2
        refine ih _ _ _ h0 (by omega) hg.1.2 ?_ (fun k k0 k1 => ?_)
        · rw [List.length_append, List.length_append]; simp; omega
        · refine wfT_app (hwf k k0 k1) (wfT_app (g3 (k + 1 + (if o = true then 1 else 0)) (by split <;> omega) (by split <;> omega)) ⟨Or.inr (Or.inl ⟨Or.inl rfl, by split <;> omega⟩), ?_⟩)
          show dS _ (-2) = _
          unfold dS; rw [if_neg (by decide), if_pos (Or.inl rfl)]; omega
      · rw [if_neg e2]
        exact ⟨⟨by show p ≤ (P (q + 1)).2.1; omega, hg.1.2⟩, fun z => absurd (show false = true from z) (by decide)⟩
    · rw [if_neg e1]
      by_cases e3 : ch q = 124
      · rw [if_pos e3]
        have l1 := h.lt (p := q) (by omega)
        have hg := hP (q + 1) (by omega) (by omega)
        have hg1 := hg.1
        by_cases e2 : (P (q + 1)).1 = true
        · rw [if_pos e2]
          obtain ⟨g1, g2, g3⟩ := hg.2 e2
          refine ih _ _ _ h0 (by omega) hg.1.2 ?_ (fun k k0 k1 => ?_)
          · rw [List.length_append, List.length_append]; cases o <;> simp at hl ⊢ <;> omega
          · refine wfT_app (hwf k k0 k1) (wfT_app (wf_or o k0) ?_)
            have := g3 (k + 1) (by omega) (by omega)
            exact this
        · rw [if_neg e2]
          exact ⟨⟨by show p ≤ (P (q + 1)).2.1; omega, hg.1.2⟩, fun z => absurd (show false = true from z) (by decide)⟩
      · rw [if_neg e3]
        exact base q c o h0 hpq hq hl hwf
theorem eith_gd (h : Txt ch n) (hw : 0 ≤ w) (hP : ∀ p, 0 ≤ p → p ≤ n → Gd n p (w + 2) (P p)) (h0 : 0 ≤ p) (hp : p ≤ n) : Gd n p w (eithF ch P p) := by
  have hg := hP p h0 hp
  have hg1 := hg.1
  unfold eithF
  by_cases e : (P p).1 = true
  · rw [if_pos e]
    obtain ⟨g1, g2, g3⟩ := hg.2 e
    refine loop_gd h hw hP 100 _ _ false h0 g1 hg.1.2 (by simp; omega) (fun k k0 k1 => ?_)
    have := g3 k k0 (by omega)
    rw [show k + 1 + (if false = true then 1 else 0) = k + 1 by simp]
    exact this
  · rw [if_neg e]; exact ⟨⟨hg.1.1, hg.1.2⟩, fun z => absurd (show false = true from z) (by decide)⟩
theorem Gd.mono {w' : Int} {r : Rs} (h : Gd n p w r) (hw : w' ≤ w) : Gd n p w' r := ⟨h.1, fun z => ⟨(h.2 z).1, (h.2 z).2.1, fun k k0 k1 => (h.2 z).2.2 k k0 (by omega)⟩⟩
theorem part_gd (h : Txt ch n) : ∀ (v : Nat), v ≤ 20 → ∀ p, 0 ≤ p → p ≤ n → Gd n p (50 - 2 * v) (partF ch v p) := by
  intro v
  induction v with
  | zero => intro _ p h0 hp; exact test_gd h h0 hp
  | succ v ih =>
    intro hv p h0 hp
    unfold partF
    by_cases e1 : ch p = 33
    · rw [if_pos e1]
      have l1 := h.lt (p := p) (by omega)
      have hg := ih (by omega) (p + 1) (by omega) (by omega)
      have hg1 := hg.1
      by_cases e2 : (partF ch v (p + 1)).1 = true
      · rw [if_pos e2]
        obtain ⟨g1, g2, g3⟩ := hg.2 e2
        refine ⟨⟨by show p ≤ (partF ch v (p + 1)).2.1; omega, hg.1.2⟩, fun _ => ⟨by show p < (partF ch v (p + 1)).2.1; omega, ?_, fun k k0 k1 => wfT_app (g3 k k0 (by omega)) ⟨Or.inl ⟨rfl, by omega⟩, ?_⟩⟩⟩
        · show (((partF ch v (p + 1)).2.2 ++ [-1]).length : Int) ≤ (partF ch v (p + 1)).2.1 - p
          rw [List.length_append]; simp; omega
        · show dS (k + 1) (-1) = k + 1
          unfold dS; rw [if_pos rfl]
      · rw [if_neg e2]; exact ⟨⟨by show p ≤ (partF ch v (p + 1)).2.1; omega, hg.1.2⟩, fun z => absurd (show false = true from z) (by decide)⟩
    · rw [if_neg e1]
      by_cases e3 : ch p = 40
      · rw [if_pos e3]
        have l1 := h.lt (p := p) (by omega)
        have hg := eith_gd h (w := 50 - 2 * ((v + 1 : Nat) : Int)) (p := p + 1) (by omega) (fun q q0 q1 => (ih (by omega) q q0 q1).mono (by omega)) (by omega) (by omega)
        have hg1 := hg.1
        by_cases e2 : (eithF ch (partF ch v) (p + 1)).1 = true
        · rw [if_pos e2]
          obtain ⟨g1, g2, g3⟩ := hg.2 e2
          by_cases e4 : ch (eithF ch (partF ch v) (p + 1)).2.1 = 41
          · have l2 := h.lt (p := (eithF ch (partF ch v) (p + 1)).2.1) (by omega)
            rw [if_pos e4]
            refine ⟨⟨by show p ≤ (eithF ch (partF ch v) (p + 1)).2.1 + 1; omega, by show (eithF ch (partF ch v) (p + 1)).2.1 + 1 ≤ n; omega⟩, fun _ => ⟨by show p < (eithF ch (partF ch v) (p + 1)).2.1 + 1; omega, ?_, g3⟩⟩
            show ((eithF ch (partF ch v) (p + 1)).2.2.length : Int) ≤ (eithF ch (partF ch v) (p + 1)).2.1 + 1 - p
            omega
          · rw [if_neg e4]; exact ⟨⟨by show p ≤ (eithF ch (partF ch v) (p + 1)).2.1; omega, hg.1.2⟩, fun z => absurd (show false = true from z) (by decide)⟩
        · rw [if_neg e2]; exact ⟨⟨by show p ≤ (eithF ch (partF ch v) (p + 1)).2.1; omega, hg.1.2⟩, fun z => absurd (show false = true from z) (by decide)⟩
      · rw [if_neg e3]; exact (test_gd h h0 hp).mono (by omega)
end
