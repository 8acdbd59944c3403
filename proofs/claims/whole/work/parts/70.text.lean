/-! A TOWN's CLAUSES, as a function of the signs. -/
def preF (ch : Int → Int) : List Int → Int → Int
  | [], _ => 0
  | a :: L, p => if ch p = a then 1 + preF ch L (p + 1) else 0
def wlist (w : Int) : List Int := if w = 0 then [108, 97, 103] else if w = 1 then [104, 97, 115, 116, 101] else if w = 2 then [102, 97, 115, 116] else [108, 111, 117, 100]
def wsel (ch : Int → Int) (p : Int) : Int := if ch p = 104 then 1 else if ch p = 102 then 2 else if ch (p + 1) = 111 then 3 else 0
def headF (ch : Int → Int) (p : Int) : Bool × Int := if preF ch (wlist (wsel ch p)) p = (wlist (wsel ch p)).length then (if ch (p + (wlist (wsel ch p)).length) = 32 then (true, p + (wlist (wsel ch p)).length + 1) else (false, p + (wlist (wsel ch p)).length)) else (false, p + preF ch (wlist (wsel ch p)) p)
abbrev Cl : Type := Bool × Int × Int × Int × List Int
def clauF (ch : Int → Int) (p : Int) : Cl := if (headF ch p).1 = true then (if (numF ch (headF ch p).2).1 < 0 then (false, (headF ch p).2, 0, 0, []) else if 2 ≤ wsel ch p then (true, (numF ch (headF ch p).2).2, wsel ch p, (numF ch (headF ch p).2).1, []) else if ch (numF ch (headF ch p).2).2 = 32 then (if (eithF ch (partF ch 4) ((numF ch (headF ch p).2).2 + 1)).1 = true then (true, (eithF ch (partF ch 4) ((numF ch (headF ch p).2).2 + 1)).2.1, wsel ch p, (numF ch (headF ch p).2).1, (eithF ch (partF ch 4) ((numF ch (headF ch p).2).2 + 1)).2.2) else (false, (eithF ch (partF ch 4) ((numF ch (headF ch p).2).2 + 1)).2.1, 0, 0, [])) else (false, (numF ch (headF ch p).2).2, 0, 0, [])) else (false, (headF ch p).2, 0, 0, [])
def addT (T : TDt) (l : Int) (r : Cl) : TDt := (T.1 + 1, pu T.2.1 T.1 r.2.2.1, pu T.2.2.1 T.1 r.2.2.2.1, pu T.2.2.2.1 T.1 (l + r.2.2.2.2.length), (r.2.2.2.2.foldl emB (l, T.2.2.2.2)).2)
def textF (ch : Int → Int) (n : Int) : Nat → Int → TDt → Int → Bool × Int × TDt × Int
  | 0, p, T, l => (decide (p = n), p, T, l)
  | k + 1, p, T, l => if ch p = 59 then (if (clauF ch (p + 1)).1 = true then textF ch n k (clauF ch (p + 1)).2.1 (addT T l (clauF ch (p + 1))) (l + (clauF ch (p + 1)).2.2.2.2.length) else (false, (clauF ch (p + 1)).2.1, T, l)) else (decide (p = n), p, T, l)
def townF (ch : Int → Int) (n : Int) (T : TDt) : Bool × Int × TDt × Int := if (clauF ch 0).1 = true then textF ch n 9 (clauF ch 0).2.1 (addT T 0 (clauF ch 0)) (0 + (clauF ch 0).2.2.2.2.length) else (false, (clauF ch 0).2.1, T, 0)
def TG (T : TDt) (l : Int) : Prop := (0 ≤ T.1 ∧ T.1 ≤ 10) ∧ (0 ≤ l ∧ l ≤ 100) ∧ frF T.2.2.2.1 T.1 = l ∧ ∀ c, 0 ≤ c → c < T.1 → (0 ≤ T.2.1 c ∧ T.2.1 c ≤ 3) ∧ (0 ≤ T.2.2.1 c ∧ T.2.2.1 c ≤ 99) ∧ 0 ≤ frF T.2.2.2.1 c ∧ T.2.2.2.1 c ≤ l ∧ (T.2.1 c ≤ 1 → segOk T.2.2.2.2 (frF T.2.2.2.1 c) (T.2.2.2.1 c))
section
variable {ch : Int → Int} {n p k w e l x : Int} {T : TDt} {r : Cl}
theorem preF_sp : ∀ (L : List Int) (p : Int), 0 ≤ preF ch L p ∧ preF ch L p ≤ L.length := by
  intro L
  induction L with
  | nil => intro p; exact ⟨Int.le_refl 0, Int.le_refl 0⟩
  | cons a L ih =>
    intro p
    have := ih (p + 1)
    unfold preF
    split
    · show 0 ≤ 1 + preF ch L (p + 1) ∧ 1 + preF ch L (p + 1) ≤ ((L.length + 1 : Nat) : Int); omega
    · show (0 : Int) ≤ 0 ∧ (0 : Int) ≤ ((L.length + 1 : Nat) : Int); omega
theorem preF_le (h : Txt ch n) : ∀ (L : List Int) (p : Int), (∀ a ∈ L, 0 ≤ a) → p ≤ n → p + preF ch L p ≤ n := by
  intro L
  induction L with
  | nil => intro p _ hp; show p + 0 ≤ n; omega
  | cons a L ih =>
    intro p ha hp
    unfold preF
    split
    · rename_i e
      have l1 := h.lt (p := p) (by rw [e]; exact ha a (List.mem_cons_self ..))
      have := ih (p + 1) (fun b hb => ha b (List.mem_cons_of_mem _ hb)) (by omega)
      omega
    · omega
theorem wlist_pos : ∀ a ∈ wlist w, 0 ≤ a := by
  intro a ha
  unfold wlist at ha
  split at ha
  · simp at ha; omega
  · split at ha
    · simp at ha; omega
    · split at ha
      · simp at ha; omega
      · simp at ha; omega
theorem wsel_rng : 0 ≤ wsel ch p ∧ wsel ch p ≤ 3 := by unfold wsel; split; omega; split; omega; split <;> omega
theorem head_sp (h : Txt ch n) (hp : p ≤ n) : (p ≤ (headF ch p).2 ∧ (headF ch p).2 ≤ n) := by
  have h1 := preF_sp (ch := ch) (wlist (wsel ch p)) p
  have h2 := preF_le h (wlist (wsel ch p)) p wlist_pos hp
  unfold headF
  split
  · rename_i e
    split
    · rename_i e2
      have := h.lt (p := p + (wlist (wsel ch p)).length) (by omega)
      dsimp only; omega
    · dsimp only; omega
  · dsimp only; omega
/-- a CLAUSE, where it is read -/
def CG (ch : Int → Int) (n p : Int) (r : Cl) : Prop := (p ≤ r.2.1 ∧ r.2.1 ≤ n) ∧ (r.1 = true → (0 ≤ r.2.2.1 ∧ r.2.2.1 ≤ 3) ∧ (0 ≤ r.2.2.2.1 ∧ r.2.2.2.1 ≤ 99) ∧ (r.2.2.2.2.length : Int) ≤ r.2.1 - p ∧ p < r.2.1 ∧ (r.2.2.1 ≤ 1 → wfT 0 r.2.2.2.2 1))
theorem clau_sp (h : Txt ch n) (h0 : 0 ≤ p) (hp : p ≤ n) : CG ch n p (clauF ch p) := by
  have hh := head_sp h hp
  have hw := wsel_rng (ch := ch) (p := p)
  have no : ∀ q, p ≤ q → q ≤ n → CG ch n p (false, q, 0, 0, []) := fun q q0 q1 => ⟨⟨q0, q1⟩, fun z => absurd (show false = true from z) (by decide)⟩
  unfold clauF
  by_cases e1 : (headF ch p).1 = true
  · rw [if_pos e1]
    have hn := num_sp h (p := (headF ch p).2) (by omega) (by omega)
    by_cases e2 : (numF ch (headF ch p).2).1 < 0
    · rw [if_pos e2]; exact no _ hh.1 hh.2
    · rw [if_neg e2]
      have hn2 := hn.2.1 (by omega)
      by_cases e3 : 2 ≤ wsel ch p
      · rw [if_pos e3]
        refine ⟨⟨by show p ≤ (numF ch (headF ch p).2).2; omega, hn.1.2⟩, fun _ => ⟨hw, by show 0 ≤ (numF ch (headF ch p).2).1 ∧ (numF ch (headF ch p).2).1 ≤ 99; omega, by show ((0 : Nat) : Int) ≤ (numF ch (headF ch p).2).2 - p; omega, by show p < (numF ch (headF ch p).2).2; omega, fun z => absurd z (by show ¬ (wsel ch p ≤ 1); omega)⟩⟩
      · rw [if_neg e3]
        by_cases e4 : ch (numF ch (headF ch p).2).2 = 32
        · rw [if_pos e4]
          have l1 := h.lt (p := (numF ch (headF ch p).2).2) (by omega)
          have hg := eith_gd h (w := 30) (P := partF ch 4) (p := (numF ch (headF ch p).2).2 + 1) (by omega) (fun q q0 q1 => (part_gd h 4 (by omega) q q0 q1).mono (by omega)) (by omega) (by omega)
          have hg1 := hg.1
          by_cases e5 : (eithF ch (partF ch 4) ((numF ch (headF ch p).2).2 + 1)).1 = true
          · rw [if_pos e5]
            obtain ⟨g1, g2, g3⟩ := hg.2 e5
            refine ⟨⟨by show p ≤ (eithF ch (partF ch 4) ((numF ch (headF ch p).2).2 + 1)).2.1; omega, hg1.2⟩, fun _ => ⟨hw, by show 0 ≤ (numF ch (headF ch p).2).1 ∧ (numF ch (headF ch p).2).1 ≤ 99; omega, ?_, by show p < (eithF ch (partF ch 4) ((numF ch (headF ch p).2).2 + 1)).2.1; omega, fun _ => g3 0 (by omega) (by omega)⟩⟩
            show ((eithF ch (partF ch 4) ((numF ch (headF ch p).2).2 + 1)).2.2.length : Int) ≤ (eithF ch (partF ch 4) ((numF ch (headF ch p).2).2 + 1)).2.1 - p
            omega
          · rw [if_neg e5]; exact no _ (by omega) hg1.2
        · rw [if_neg e4]; exact no _ (by omega) hn.1.2
  · rw [if_neg e1]; exact no _ hh.1 hh.2
/-- rows that are filled up -/
theorem emB_row : ∀ (L : List Int) (s : Int) (row : Int → Int), 0 ≤ s → s + L.length ≤ 100 → (L.foldl emB (s, row)).1 = s + L.length ∧ (∀ i, i < s → (L.foldl emB (s, row)).2 i = row i) ∧ ∀ i : Nat, i < L.length → (L.foldl emB (s, row)).2 (s + i) = L.getD i 0 := by
  intro L
  induction L with
  | nil => intro s row _ _; exact ⟨(Int.add_zero s).symm, fun _ _ => rfl, fun i hi => absurd hi (Nat.not_lt_zero i)⟩
  | cons b L ih =>
    intro s row h0 hl
    have hl : s + ((L.length + 1 : Nat) : Int) ≤ 100 := hl
    have e : (b :: L).foldl emB (s, row) = L.foldl emB (s + 1, pu row s b) := by
      show L.foldl emB (emB (s, row) b) = _
      unfold emB; rw [if_pos (show s < 100 by omega)]
    rw [e]
    obtain ⟨h1, h2, h3⟩ := ih (s + 1) (pu row s b) (by omega) (by omega)
    refine ⟨by rw [h1]; show s + 1 + (L.length : Int) = s + ((L.length + 1 : Nat) : Int); omega, fun i hi => ?_, fun i hi => ?_⟩
    · rw [h2 i (by omega)]; unfold pu; rw [if_neg (by omega)]
    · cases i with
      | zero =>
        rw [show s + ((0 : Nat) : Int) = s by omega, h2 s (by omega)]
        unfold pu; rw [if_pos rfl]; rfl
      | succ i =>
        have := h3 i (by simpa using hi)
        rw [show s + ((i + 1 : Nat) : Int) = s + 1 + (i : Int) by omega, this]; rfl
theorem emM_row : ∀ (L : List Int) (s : Int) (row : Int → Int), (L.foldl emM (s, row)).1 = s + L.length ∧ (∀ i, i < s → (L.foldl emM (s, row)).2 i = row i) ∧ ∀ i : Nat, i < L.length → (L.foldl emM (s, row)).2 (s + i) = L.getD i 0 := by
  intro L
  induction L with
  | nil => intro s row; exact ⟨(Int.add_zero s).symm, fun _ _ => rfl, fun i hi => absurd hi (Nat.not_lt_zero i)⟩
  | cons b L ih =>
    intro s row
    have e : (b :: L).foldl emM (s, row) = L.foldl emM (s + 1, pu row s b) := rfl
    rw [e]
    obtain ⟨h1, h2, h3⟩ := ih (s + 1) (pu row s b)
    refine ⟨by rw [h1]; show s + 1 + (L.length : Int) = s + ((L.length + 1 : Nat) : Int); omega, fun i hi => ?_, fun i hi => ?_⟩
    · rw [h2 i (by omega)]; unfold pu; rw [if_neg (by omega)]
    · cases i with
      | zero =>
        rw [show s + ((0 : Nat) : Int) = s by omega, h2 s (by omega)]
        unfold pu; rw [if_pos rfl]; rfl
      | succ i =>
        have := h3 i (by simpa using hi)
        rw [show s + ((i + 1 : Nat) : Int) = s + 1 + (i : Int) by omega, this]; rfl
theorem wfT_at : ∀ (L : List Int) (k e : Int), wfT k L e → (∀ i : Nat, i < L.length → tkOk ((L.take i).foldl dS k) (L.getD i 0)) ∧ L.foldl dS k = e := by
  intro L
  induction L with
  | nil => intro k e h; exact ⟨fun i hi => absurd hi (Nat.not_lt_zero i), h⟩
  | cons t L ih =>
    intro k e h
    obtain ⟨h1, h2⟩ := ih _ _ h.2
    refine ⟨fun i hi => ?_, h2⟩
    cases i with
    | zero => exact h.1
    | succ i => exact h1 i (by simpa using hi)
theorem seg_of {L : List Int} {code : Int → Int} {fr : Int} (h : wfT 0 L 1) (hc : ∀ i : Nat, i < L.length → code (fr + i) = L.getD i 0) : segOk code fr (fr + L.length) := by
  obtain ⟨h1, h2⟩ := wfT_at L 0 1 h
  have hd : ∀ i : Nat, i ≤ L.length → dpt code fr (i : Int) = (L.take i).foldl dS 0 := by
    intro i
    induction i with
    | zero => intro _; rfl
    | succ i ih =>
      intro hi
      have e : dpt code fr ((i : Int) + 1) = dS (dpt code fr (i : Int)) (code (fr + (i : Int))) := fI_s (by omega)
      rw [show ((i + 1 : Nat) : Int) = (i : Int) + 1 by omega, e, ih (by omega), hc i (by omega), List.take_succ, List.foldl_append]
      have : L[i]?.toList = [L.getD i 0] := by
        rw [List.getD_eq_getElem?_getD, List.getElem?_eq_getElem (by omega)]; rfl
      rw [this]; rfl
  refine ⟨by omega, fun i i0 i1 => ?_, ?_⟩
  · obtain ⟨j, rfl⟩ : ∃ j : Nat, i = (j : Int) := ⟨i.toNat, by omega⟩
    rw [hd j (by omega), hc j (by omega)]
    exact h1 j (by omega)
  · rw [show fr + (L.length : Int) - fr = (L.length : Int) by omega, hd L.length (Nat.le_refl _), List.take_length]
    exact h2
theorem seg_cong {code code' : Int → Int} {fr to : Int} (h : segOk code fr to) (hc : ∀ i, fr ≤ i → i < to → code' i = code i) : segOk code' fr to := by
  have hd : ∀ i, 0 ≤ i → i ≤ to - fr → dpt code' fr i = dpt code fr i := fun i i0 i1 => by
    unfold dpt
    exact fI_cong (n := to - fr) (fun b j j0 j1 => by rw [hc (fr + j) (by omega) (by omega)]) i i0 i1
  obtain ⟨h1, h2, h3⟩ := h
  refine ⟨h1, fun i i0 i1 => ?_, ?_⟩
  · rw [hd i i0 (by omega), hc (fr + i) (by omega) (by omega)]; exact h2 i i0 i1
  · rw [hd _ (by omega) (by omega)]; exact h3
theorem pu_at {f : Int → Int} {p x : Int} : pu f p x p = x := if_pos rfl
theorem pu_no {f : Int → Int} {p x i : Int} (h : i ≠ p) : pu f p x i = f i := if_neg h
theorem frF_pu {f : Int → Int} {q x c : Int} (h : c ≤ q) : frF (pu f q x) c = frF f c := by
  unfold frF; split
  · rfl
  · exact pu_no (by omega)
theorem TG.add (h : TG T l) (hT : T.1 < 10) (hr : CG ch n p r) (hok : r.1 = true) (hl : l + (r.2.2.2.2.length : Int) ≤ 100) : TG (addT T l r) (l + r.2.2.2.2.length) := by
  obtain ⟨⟨h1, h2⟩, h3, h4, h5⟩ := h
  obtain ⟨r1, r2, r3, r4, r5⟩ := hr.2 hok
  obtain ⟨f1, f2, f3⟩ := emB_row r.2.2.2.2 l T.2.2.2.2 h3.1 hl
  refine ⟨⟨by show 0 ≤ T.1 + 1; omega, by show T.1 + 1 ≤ 10; omega⟩, ⟨by omega, hl⟩, ?_, fun c c0 c1 => ?_⟩
  · show frF (pu T.2.2.2.1 T.1 (l + r.2.2.2.2.length)) (T.1 + 1) = _
    unfold frF; rw [if_neg (by omega), show T.1 + 1 - 1 = T.1 by omega]; exact pu_at
  · have c1 : c < T.1 + 1 := c1
    show (0 ≤ pu T.2.1 T.1 r.2.2.1 c ∧ pu T.2.1 T.1 r.2.2.1 c ≤ 3) ∧ (0 ≤ pu T.2.2.1 T.1 r.2.2.2.1 c ∧ pu T.2.2.1 T.1 r.2.2.2.1 c ≤ 99) ∧ 0 ≤ frF (pu T.2.2.2.1 T.1 (l + r.2.2.2.2.length)) c ∧ pu T.2.2.2.1 T.1 (l + r.2.2.2.2.length) c ≤ l + r.2.2.2.2.length ∧ (pu T.2.1 T.1 r.2.2.1 c ≤ 1 → segOk (r.2.2.2.2.foldl emB (l, T.2.2.2.2)).2 (frF (pu T.2.2.2.1 T.1 (l + r.2.2.2.2.length)) c) (pu T.2.2.2.1 T.1 (l + r.2.2.2.2.length) c))
    rw [frF_pu (by omega)]
    by_cases e : c = T.1
    · subst e
      rw [pu_at, pu_at, pu_at, h4]
      exact ⟨r1, r2, h3.1, Int.le_refl _, fun z => seg_of (r5 z) f3⟩
    · rw [pu_no e, pu_no e, pu_no e]
      obtain ⟨g1, g2, g3, g4, g5⟩ := h5 c c0 (by omega)
      refine ⟨g1, g2, g3, by omega, fun z => seg_cong (g5 z) (fun i i0 i1 => f2 i (by omega))⟩
theorem TG.ok (h : TG T l) : TDok T := ⟨h.1, fun c c0 c1 => by
  obtain ⟨g1, g2, g3, g4, g5⟩ := h.2.2.2 c c0 c1
  exact ⟨g1, g2, g3, by have := h.2.1; omega, g5⟩⟩
theorem fast_add (h : 0 ≤ T.1) : fastT (addT T l r) = if r.2.2.1 = 2 then r.2.2.2.1 else fastT T := by
  show fI (fun n c => if pu T.2.1 T.1 r.2.2.1 c = 2 then pu T.2.2.1 T.1 r.2.2.2.1 c else n) 0 (T.1 + 1) = _
  rw [fI_s h, pu_at, pu_at]
  split
  · rfl
  · exact fI_cong (n := T.1) (fun b i i0 i1 => by rw [pu_no (by omega), pu_no (by omega)]) T.1 h (by omega)
theorem loud_add (h : 0 ≤ T.1) : loudT (addT T l r) = if r.2.2.1 = 3 then r.2.2.2.1 else loudT T := by
  show fI (fun n c => if pu T.2.1 T.1 r.2.2.1 c = 3 then pu T.2.2.1 T.1 r.2.2.2.1 c else n) 5 (T.1 + 1) = _
  rw [fI_s h, pu_at, pu_at]
  split
  · rfl
  · exact fI_cong (n := T.1) (fun b i i0 i1 => by rw [pu_no (by omega), pu_no (by omega)]) T.1 h (by omega)
end
