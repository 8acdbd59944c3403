/-! What a DAY does. -/
def factV (V : Vw) (p : Int) : Int → Int := factF p (vk V p) (vv V p) (vu V p) (vo V p) (vd V)
def lgV (T : TDt) (pp : Int) (V : Vw) (p : Int) : Int := if p = pp then 0 else lagT T (factV V p)
def cmV (T : TDt) (pp : Int) (V : Vw) (p : Int) : Int := vu V p + lgV T pp V p - vo V p
def rsum (aw lg cm : Int → Int) (n mi : Int) : Int := fI (fun s q => if (aw q = 0 ∧ 0 < lg q) ∧ cm q = mi then s + lg q else s) 0 n
def rgV (T : TDt) (pp : Int) (V : Vw) (p : Int) : Int := if va V p = 0 ∧ 0 < lgV T pp V p then rsum (va V) (lgV T pp V) (cmV T pp V) (vn V) (cmV T pp V p) else 0
def insC (cm : Int → Int) (p : Int) : List Int → List Int
  | [] => [p]
  | x :: l => if cm p < cm x then p :: x :: l else x :: insC cm p l
def ordL (rg cm : Int → Int) (n : Int) : List Int := fI (fun l p => if 0 < rg p then insC cm p l else l) [] n
def setB (loud : Int) (V : Vw) (rg o : Int → Int) (p r : Int) : Int :=
  if rg r < vv V p then o p else
  if vk V p = 0 then o r else if vk V p = 1 then o p + i_div (o r - o p) 2 else if vk V p = 2 then (if loud ≤ rg r then o r else o p) else if vk V p = 3 then (if r < p then o r else o p) else if vk V p = 4 then o p + clp 1 (i_div (o r - o p) 2) else if vk V p = 6 then (if r < p then clp 999 (o r + vr V (4 * p + vd V % 4)) else o p) else o p
def hearS (loud : Int) (V : Vw) (rg : Int → Int) (r : Int) (s : (Int → Int) × Bool) (p : Int) : (Int → Int) × Bool :=
  if p ≠ r ∧ va V p = 0 then (pu s.1 p (setB loud V rg s.1 p r), s.2 || decide (setB loud V rg s.1 p r ≠ s.1 p)) else s
def hearV (loud : Int) (V : Vw) (rg : Int → Int) (s : (Int → Int) × Bool) (r : Int) : (Int → Int) × Bool := fI (hearS loud V rg r) s (vn V)
def dayO (T : TDt) (pp : Int) (V : Vw) : (Int → Int) × Bool := (ordL (rgV T pp V) (cmV T pp V) (vn V)).foldl (hearV (loudT T) V (rgV T pp V)) (vo V, false)
def dayV (T : TDt) (pp : Int) (V : Vw) : Vw := setD (setO V (t6 (fun p => if p < vn V then clp 999 ((dayO T pp V).1 p + fastT T) else (dayO T pp V).1 p))) (vd V + 1)
def dayC (T : TDt) (pp : Int) (V : Vw) : Bool := (dayO T pp V).2
def daysV (T : TDt) (pp : Int) (V : Vw) (n : Int) : Vw := fI (fun V _ => dayV T pp V) V n
theorem up_same {μ : aM} {k : Nat} {i j x : Int} : up μ k i j x k i j = x := by unfold up; rw [if_pos ⟨rfl, rfl, rfl⟩]
theorem up_ne {μ : aM} {k : Nat} {i j j' x : Int} (h : j' ≠ j) : up μ k i j x k i j' = μ k i j' := by unfold up; rw [if_neg (fun z => h z.2.1)]
theorem lgV_rng {T : TDt} (hT : TDok T) {pp p : Int} {V : Vw} : -990 ≤ lgV T pp V p ∧ lgV T pp V p ≤ 990 := by
  unfold lgV; split
  · omega
  · exact lagT_rng hT
theorem rsum_rng {aw lg cm : Int → Int} {n mi : Int} (hl : ∀ q, 0 ≤ q → q < n → lg q ≤ 990) : ∀ q, 0 ≤ q → q ≤ n → 0 ≤ rsum aw lg cm q mi ∧ rsum aw lg cm q mi ≤ 990 * q := by
  intro q h0 hn
  obtain ⟨k, rfl⟩ : ∃ k : Nat, q = (k : Int) := ⟨q.toNat, by omega⟩
  induction k with
  | zero => show 0 ≤ (0 : Int) ∧ (0 : Int) ≤ 990 * ((0 : Nat) : Int); omega
  | succ k ih =>
    have := ih (by omega) (by omega)
    have h9 := hl k (by omega) (by omega)
    unfold rsum at this ⊢
    rw [show ((k + 1 : Nat) : Int) = (k : Int) + 1 by omega, fI_s (by omega)]
    split <;> omega
theorem rgV_rng {T : TDt} (hT : TDok T) {pp p B : Int} {V : Vw} (hV : VOk B V) : 0 ≤ rgV T pp V p ∧ rgV T pp V p ≤ 5940 := by
  have hn := hV.1
  unfold rgV
  split
  · have := rsum_rng (aw := va V) (lg := lgV T pp V) (cm := cmV T pp V) (mi := cmV T pp V p) (n := vn V) (fun q _ _ => (lgV_rng hT).2) (vn V) hn.1 (Int.le_refl _)
    omega
  · omega
/-! the order of ringing -/
def SL (cm : Int → Int) : List Int → Prop
  | [] => True
  | x :: l => (∀ y ∈ l, cm x < cm y ∨ (cm x = cm y ∧ x < y)) ∧ SL cm l
theorem insC_mem {cm : Int → Int} {p y : Int} : ∀ {l : List Int}, y ∈ insC cm p l ↔ y = p ∨ y ∈ l
  | [] => by simp [insC]
  | x :: l => by
    unfold insC
    split
    · simp
    · simp only [List.mem_cons, insC_mem (l := l)]
      constructor
      · rintro (h | h | h)
        · exact Or.inr (Or.inl h)
        · exact Or.inl h
        · exact Or.inr (Or.inr h)
      · rintro (h | h | h)
        · exact Or.inr (Or.inl h)
        · exact Or.inl h
        · exact Or.inr (Or.inr h)
theorem insC_SL {cm : Int → Int} {p : Int} : ∀ {l : List Int}, SL cm l → (∀ y ∈ l, y < p) → SL cm (insC cm p l)
  | [], _, _ => ⟨fun _ h => by simp at h, trivial⟩
  | x :: l, h, hp => by
    unfold insC
    split
    · rename_i hlt
      refine ⟨fun y hy => ?_, h⟩
      rcases List.mem_cons.mp hy with e | e
      · rw [e]; exact Or.inl hlt
      · rcases h.1 y e with z | z
        · exact Or.inl (by omega)
        · exact Or.inl (by omega)
    · rename_i hlt
      refine ⟨fun y hy => ?_, insC_SL h.2 (fun y hy => hp y (List.mem_cons_of_mem _ hy))⟩
      rcases insC_mem.mp hy with e | e
      · have := hp x List.mem_cons_self
        rw [e]; omega
      · exact h.1 y e
theorem ordL_spec {rg cm : Int → Int} {n : Int} : ∀ p, 0 ≤ p → p ≤ n → SL cm (ordL rg cm p) ∧ ∀ y, y ∈ ordL rg cm p ↔ (0 ≤ y ∧ y < p) ∧ 0 < rg y := by
  intro p h0 hn
  obtain ⟨k, rfl⟩ : ∃ k : Nat, p = (k : Int) := ⟨p.toNat, by omega⟩
  induction k with
  | zero =>
    refine ⟨trivial, fun y => ?_⟩
    show y ∈ ([] : List Int) ↔ _
    simp; omega
  | succ k ih =>
    obtain ⟨h1, h2⟩ := ih (by omega) (by omega)
    unfold ordL at h1 h2 ⊢
    rw [show ((k + 1 : Nat) : Int) = (k : Int) + 1 by omega, fI_s (by omega)]
    split
    · rename_i hr
      refine ⟨insC_SL h1 (fun y hy => ((h2 y).mp hy).1.2), fun y => ?_⟩
      rw [insC_mem, h2 y]
      constructor
      · rintro (e | ⟨e1, e2⟩)
        · rw [e]; exact ⟨⟨by omega, by omega⟩, hr⟩
        · exact ⟨⟨by omega, by omega⟩, e2⟩
      · rintro ⟨e1, e2⟩
        by_cases z : y = (k : Int)
        · exact Or.inl z
        · exact Or.inr ⟨⟨by omega, by omega⟩, e2⟩
    · rename_i hr
      refine ⟨h1, fun y => ?_⟩
      rw [h2 y]
      constructor
      · rintro ⟨e1, e2⟩; exact ⟨⟨by omega, by omega⟩, e2⟩
      · rintro ⟨e1, e2⟩
        by_cases z : y = (k : Int)
        · rw [z] at e2; exact absurd e2 hr
        · exact ⟨⟨by omega, by omega⟩, e2⟩
theorem insC_len {cm : Int → Int} {p : Int} : ∀ {l : List Int}, (insC cm p l).length = l.length + 1
  | [] => rfl
  | x :: l => by
    unfold insC
    split
    · rfl
    · simp [insC_len (l := l)]
theorem ordL_len {rg cm : Int → Int} {n : Int} : ∀ p, 0 ≤ p → p ≤ n → ((ordL rg cm p).length : Int) ≤ p := by
  intro p h0 hn
  obtain ⟨k, rfl⟩ : ∃ k : Nat, p = (k : Int) := ⟨p.toNat, by omega⟩
  induction k with
  | zero => show (([] : List Int).length : Int) ≤ _; simp
  | succ k ih =>
    have h1 := ih (by omega) (by omega)
    unfold ordL at h1 ⊢
    rw [show ((k + 1 : Nat) : Int) = (k : Int) + 1 by omega, fI_s (by omega)]
    split
    · rw [insC_len]; omega
    · omega
theorem insC_split {cm : Int → Int} {p : Int} : ∀ {l1 l2 : List Int}, (∀ y ∈ l1, cm y ≤ cm p) → (∀ y ∈ l2, cm p < cm y) → insC cm p (l1 ++ l2) = l1 ++ p :: l2
  | [], [], _, _ => rfl
  | [], x :: l, _, h => by
    show insC cm p (x :: l) = p :: x :: l
    unfold insC; rw [if_pos (h x List.mem_cons_self)]
  | x :: l1, l2, h1, h2 => by
    show insC cm p (x :: (l1 ++ l2)) = x :: (l1 ++ p :: l2)
    unfold insC
    rw [if_neg (by have := h1 x List.mem_cons_self; omega), insC_split (fun y hy => h1 y (List.mem_cons_of_mem _ hy)) h2]
/-- a list in an array, from a place on -/
def arrIs (row : Int → Int) : Int → List Int → Prop
  | _, [] => True
  | o, x :: l => row o = x ∧ arrIs row (o + 1) l
theorem arr_app {row : Int → Int} : ∀ {l1 l2 : List Int} {o : Int}, arrIs row o (l1 ++ l2) ↔ arrIs row o l1 ∧ arrIs row (o + l1.length) l2
  | [], l2, o => by simp [arrIs]
  | x :: l1, l2, o => by
    simp only [List.cons_append, arrIs, arr_app (l1 := l1)]
    rw [show o + 1 + (l1.length : Int) = o + ((x :: l1).length : Int) by simp; omega]
    exact ⟨fun h => ⟨⟨h.1, h.2.1⟩, h.2.2⟩, fun h => ⟨h.1.1, h.1.2, h.2⟩⟩
theorem arr_pu {row : Int → Int} {i x : Int} : ∀ {l : List Int} {o : Int}, arrIs row o l → (i < o ∨ o + l.length ≤ i) → arrIs (pu row i x) o l
  | [], _, _, _ => trivial
  | y :: l, o, h, hi => by
    have hl : ((y :: l).length : Int) = (l.length : Int) + 1 := by simp
    refine ⟨?_, arr_pu h.2 (by omega)⟩
    unfold pu; rw [if_neg (by omega)]; exact h.1
theorem arr_last {row : Int → Int} {l : List Int} {y o : Int} (h : arrIs row o (l ++ [y])) : row (o + l.length) = y := (arr_app.mp h).2.1
/-! offs in their bounds while they are set -/
def oOk (o : Int → Int) : Prop := ∀ p, 0 ≤ p → p < 6 → -999 ≤ o p ∧ o p ≤ 999
theorem half_rng {x y : Int} (hx : -999 ≤ x ∧ x ≤ 999) (hy : -999 ≤ y ∧ y ≤ 999) : i_div (x - y) 2 = (x - y).tdiv 2 ∧ (0 ≤ x - y → 0 ≤ (x - y).tdiv 2 ∧ (x - y).tdiv 2 ≤ x - y ∧ 2 * (x - y).tdiv 2 ≤ x - y) ∧ (x - y ≤ 0 → x - y ≤ (x - y).tdiv 2 ∧ (x - y).tdiv 2 ≤ 0 ∧ x - y ≤ 2 * (x - y).tdiv 2) := by
  have e : (x - y).tdiv 2 = if 0 ≤ x - y then (x - y) / 2 else -((y - x) / 2) := by
    split
    · rename_i h; rw [Int.tdiv_eq_ediv_of_nonneg h]
    · rename_i h
      rw [show x - y = -(y - x) by omega, Int.neg_tdiv, Int.tdiv_eq_ediv_of_nonneg (by omega)]
  refine ⟨?_, ?_, ?_⟩
  · unfold i_div
    refine w32_id ⟨?_, ?_⟩ <;> (rw [e]; split <;> omega)
  · intro h; rw [e, if_pos h]; omega
  · intro h; rw [e]; split <;> omega
theorem clp_rng {m x : Int} (hm : 0 ≤ m) : -m ≤ clp m x ∧ clp m x ≤ m := by
  unfold clp
  split
  · omega
  · split <;> omega
theorem clp_id {m x : Int} (h : -m ≤ x ∧ x ≤ m) : clp m x = x := by unfold clp; rw [if_neg (by omega), if_neg (by omega)]
theorem setB_rng {loud B : Int} {V : Vw} {rg o : Int → Int} {p r : Int} (ho : oOk o) (hp : 0 ≤ p ∧ p < 6) (hr : 0 ≤ r ∧ r < 6) : -999 ≤ setB loud V rg o p r ∧ setB loud V rg o p r ≤ 999 := by
  have h1 := ho p hp.1 hp.2
  have h2 := ho r hr.1 hr.2
  obtain ⟨a1, a2, a3⟩ := half_rng h2 h1
  unfold setB
  rw [a1]
  have h3 : ∀ x, -999 ≤ clp 999 x ∧ clp 999 x ≤ 999 := fun x => clp_rng (by omega)
  have h4 : clp 1 ((o r - o p).tdiv 2) = if (o r - o p).tdiv 2 < -1 then -1 else if 1 < (o r - o p).tdiv 2 then 1 else (o r - o p).tdiv 2 := rfl
  repeat' split
  all_goals first | omega | exact h3 _ | (rw [h4]; split <;> (try split) <;> omega)
theorem hearS_ok {loud : Int} {V : Vw} {rg : Int → Int} {r : Int} {s : (Int → Int) × Bool} {p : Int} (ho : oOk s.1) (hp : 0 ≤ p ∧ p < 6) (hr : 0 ≤ r ∧ r < 6) : oOk (hearS loud V rg r s p).1 := by
  unfold hearS
  split
  · intro q h0 h6
    show -999 ≤ pu s.1 p _ q ∧ pu s.1 p _ q ≤ 999
    unfold pu
    split
    · exact setB_rng (B := 0) ho hp hr
    · exact ho q h0 h6
  · exact ho
theorem hearF_ok {loud : Int} {V : Vw} {rg : Int → Int} {r n : Int} {s : (Int → Int) × Bool} (ho : oOk s.1) (hn : n ≤ 6) (hr : 0 ≤ r ∧ r < 6) : ∀ p, 0 ≤ p → p ≤ n → oOk (fI (hearS loud V rg r) s p).1 := by
  intro p h0 hp
  obtain ⟨k, rfl⟩ : ∃ k : Nat, p = (k : Int) := ⟨p.toNat, by omega⟩
  induction k with
  | zero => exact ho
  | succ k ih =>
    rw [show ((k + 1 : Nat) : Int) = (k : Int) + 1 by omega, fI_s (by omega)]
    exact hearS_ok (ih (by omega) (by omega)) ⟨by omega, by omega⟩ hr
theorem hearL_ok {loud B : Int} {V : Vw} (hV : VOk B V) {rg : Int → Int} : ∀ (l : List Int) (s : (Int → Int) × Bool), oOk s.1 → (∀ r ∈ l, 0 ≤ r ∧ r < 6) → oOk (l.foldl (hearV loud V rg) s).1
  | [], _, ho, _ => ho
  | r :: l, s, ho, hr => by
    have hn := hV.1
    exact hearL_ok hV l _ (hearF_ok ho hn.2 (hr r List.mem_cons_self) (vn V) hn.1 (Int.le_refl _)) (fun r' h' => hr r' (List.mem_cons_of_mem _ h'))
theorem vok_oOk {B : Int} {V : Vw} (hV : VOk B V) : oOk (vo V) := fun p h0 h6 => (hV.2.2 p h0 h6).2.2.2.1
theorem ord_in {B : Int} {V : Vw} (hV : VOk B V) {rg cm : Int → Int} : ∀ r ∈ ordL rg cm (vn V), 0 ≤ r ∧ r < 6 := fun r hr => by
  have hn := hV.1
  have := ((ordL_spec (n := vn V) (vn V) hn.1 (Int.le_refl _)).2 r).mp hr
  omega
theorem dayO_ok {B : Int} {T : TDt} {pp : Int} {V : Vw} (hV : VOk B V) : oOk (dayO T pp V).1 := hearL_ok hV _ _ (vok_oOk hV) (ord_in hV)
theorem dayV_ok {B : Int} {T : TDt} {pp : Int} {V : Vw} (hV : VOk B V) : VOk (B + 1) (dayV T pp V) := by
  have h0 := dayO_ok (T := T) (pp := pp) hV
  obtain ⟨h1, h2, h3⟩ := hV
  refine ⟨h1, ⟨by show 0 ≤ vd V + 1; omega, by show vd V + 1 ≤ B + 1; omega⟩, fun i i0 i6 => ?_⟩
  obtain ⟨a1, a2, a3, a4, a5, a6⟩ := h3 i i0 i6
  refine ⟨a1, a2, a3, ?_, a5, a6⟩
  have e : vo (dayV T pp V) i = if i < vn V then clp 999 ((dayO T pp V).1 i + fastT T) else (dayO T pp V).1 i := by
    show t6 (fun p => if p < vn V then clp 999 ((dayO T pp V).1 p + fastT T) else (dayO T pp V).1 p) i = _
    exact t6_in i0 i6
  rw [e]
  split
  · exact clp_rng (by omega)
  · exact h0 i i0 i6
theorem daysV_s {T : TDt} {pp : Int} {V : Vw} {n : Int} (h : 0 ≤ n) : daysV T pp V (n + 1) = dayV T pp (daysV T pp V n) := fI_s h
theorem daysV_ok {B : Int} {T : TDt} {pp : Int} {V : Vw} (hV : VOk B V) : ∀ n, 0 ≤ n → VOk (B + n) (daysV T pp V n) := by
  intro n h0
  obtain ⟨k, rfl⟩ : ∃ k : Nat, n = (k : Int) := ⟨n.toNat, by omega⟩
  induction k with
  | zero => rw [show B + ((0 : Nat) : Int) = B by omega]; exact hV
  | succ k ih =>
    rw [show ((k + 1 : Nat) : Int) = (k : Int) + 1 by omega, daysV_s (by omega), show B + ((k : Int) + 1) = B + k + 1 by omega]
    exact dayV_ok (ih (by omega))
