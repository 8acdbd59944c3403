/-! The reference reads an E: its leaves. -/
def emM (s : Log) (b : Int) : Log := (s.1 + 1, pu s.2 s.1 b)
def XM (f c : Int) (k : Nat) (i j : Int) : Prop := i = 0 ∧ ((k = 31 ∧ (j = 11 ∨ j = 12 ∨ (21 ≤ j ∧ j ≤ 23))) ∨ (k = 42 ∧ j = c) ∨ (k = 43 ∧ 100 * f ≤ j ∧ j < 100 * f + 100) ∨ k = 44)
def KE (f c : Int) (μ m : aM) (L : List Int) : Prop := (m 31 0 21, m 43 0) = L.foldl emM (μ 31 0 21, μ 43 0) ∧ Tch (XM f c) μ m
def MTx (μ : aM) (ch : Int → Int) (n : Int) : Prop := μ 31 0 10 = n ∧ ∀ p, 0 ≤ p → p < n → μ 37 0 p = ch p
section
variable {g : aG} {d : Nat} {μ m0 : aM} {Q : aQ} {x f a b k v i t c n p w o : Int} {ch : Int → Int}
theorem KE.rf : KE f c μ μ [] := ⟨rfl, Tch.rf⟩
theorem KE.tr {m m' : aM} {L L' : List Int} (h : KE f c μ m L) (h2 : KE f c m m' L') : KE f c μ m' (L ++ L') := ⟨by rw [List.foldl_append, ← h.1]; exact h2.1, h.2.tr h2.2⟩
theorem KE.u {m : aM} {L : List Int} {j : Int} (h : KE f c μ m L) (hj : j = 11 ∨ j = 12 ∨ j = 22 ∨ j = 23) : KE f c μ (up m 31 0 j x) L := ⟨by rw [up_ne (by omega), up_k (by decide)]; exact h.1, h.2.up (by unfold XM; omega)⟩
theorem KE.st {m : aM} {L : List Int} {j : Int} (h : KE f c μ m L) : KE f c μ (up m 44 0 j x) L := ⟨by rw [up_other (by decide), up_k (by decide)]; exact h.1, h.2.up (by unfold XM; omega)⟩
theorem KE.to {m : aM} {L : List Int} (h : KE f c μ m L) : KE f c μ (up m 42 0 c x) L := ⟨by rw [up_other (by decide), up_k (by decide)]; exact h.1, h.2.up (by unfold XM; omega)⟩
theorem KE.mt {m : aM} {L : List Int} (h : KE f c μ m L) (hc : MTx μ ch n) : MTx m ch n := ⟨by rw [h.2 31 0 10 (by unfold XM; omega)]; exact hc.1, fun p p0 p1 => by rw [h.2 37 0 p (by unfold XM; omega)]; exact hc.2 p p0 p1⟩
theorem emM_1 : ∀ (L : List Int) {s : Log}, (L.foldl emM s).1 = s.1 + L.length := by
  intro L
  induction L with
  | nil => intro s; exact (Int.add_zero _).symm
  | cons b L ih =>
    intro s
    show (L.foldl emM (emM s b)).1 = _
    rw [ih]
    show s.1 + 1 + (L.length : Int) = s.1 + ((L.length + 1 : Nat) : Int)
    omega
theorem KE.nn {m : aM} {L : List Int} (h : KE f c μ m L) : m 31 0 21 = μ 31 0 21 + L.length := by
  have : (m 31 0 21, m 43 0).1 = _ := congrArg (·.1) h.1
  rw [emM_1] at this; exact this
theorem MTx.nx (hc : MTx μ ch n) (hx : Txt ch n) (h0 : 0 ≤ p) : (if p < μ 31 0 10 then μ 37 0 p else -1) = ch p := by
  rw [hc.1]
  by_cases e : p < n
  · rw [if_pos e, hc.2 p h0 e]
  · rw [if_neg e, hx.2.2 p (by omega)]
theorem c_emits (hf : 0 ≤ f ∧ f ≤ 5) (hs : 100 * f ≤ μ 31 0 21 ∧ μ 31 0 21 < 100 * f + 100) (h : KE f c μ (up (up μ 43 0 (μ 31 0 21) b) 31 0 21 (μ 31 0 21 + 1)) [b] → Q none (up (up μ 43 0 (μ 31 0 21) b) 31 0 21 (μ 31 0 21 + 1))) : Cal g (d + 1) m_M_emits [aR 31 0, aI b] μ Q := by
  refine T_M_emits (b1 := by omega) (b2 := by omega) (k1 := h ⟨?_, (Tch.rf.up (by unfold XM; omega)).up (by unfold XM; omega)⟩)
  show _ = emM (μ 31 0 21, μ 43 0) b
  rw [up_same, up_k (by decide), up_row]
  rfl
def rep (j : Nat) : List Int := List.replicate j (-33)
theorem rep_s {j : Nat} : rep (j + 1) = -33 :: rep j := rfl
/-- all '!' that stand on top are whole -/
theorem l_whole (hf : 0 ≤ f ∧ f ≤ 5) : ∀ (j : Nat) (μ : aM), (∀ i, μ 31 0 22 - j ≤ i → i < μ 31 0 22 → μ 44 0 i = 33) → (μ 31 0 22 = j ∨ μ 44 0 (μ 31 0 22 - j - 1) ≠ 33) → ((j : Int) ≤ μ 31 0 22 ∧ μ 31 0 22 ≤ 100) → (100 * f ≤ μ 31 0 21 ∧ μ 31 0 21 + μ 31 0 22 ≤ 100 * f + 100) → (-100 ≤ μ 31 0 23 - j ∧ μ 31 0 23 ≤ 1000) → (∀ m, KE f c μ m (rep j) → m 31 0 11 = μ 31 0 11 → m 31 0 22 = μ 31 0 22 - j → m 31 0 23 = μ 31 0 23 - j → m 44 0 = μ 44 0 → Q none m) → Rn g (d + 1) m_M_whole 0 [some (aR 31 0)] [] μ Q := by
  intro j
  induction j with
  | zero =>
    intro μ h1 h2 h3 h4 h5 h
    have hh := h μ KE.rf rfl (by omega) (by omega) rfl
    refine B_M_whole_0 (b1 := by intros; omega) (b2 := by intros; omega) (k1 := fun _ => hh) (k2 := fun _ _ => hh) (k3 := fun z1 z2 => ?_)
    rcases h2 with h2 | h2
    · exact absurd z1 (by omega)
    · exact absurd z2 (by rw [show μ 31 0 22 - ((0 : Nat) : Int) - 1 = μ 31 0 22 - 1 by omega] at h2; exact h2)
  | succ j ih =>
    intro μ h1 h2 h3 h4 h5 h
    have e1 := h1 (μ 31 0 22 - 1) (by omega) (by omega)
    refine B_M_whole_0 (b1 := by intros; omega) (b2 := by intros; omega) (k1 := fun z => absurd z (by omega)) (k2 := fun _ z => absurd e1 z) (k3 := fun _ _ => ?_)
    refine Cal_le (show 1 ≤ d + 1 by omega) (c_emits (d := 0) (f := f) (c := c) hf (by omega) (fun k1 => ?_))
    have a0 : up (up μ 43 0 (μ 31 0 21) (-33)) 31 0 21 (μ 31 0 21 + 1) 31 0 11 = μ 31 0 11 := by rw [up_ne (by decide), up_other (by decide)]
    have a1 : up (up μ 43 0 (μ 31 0 21) (-33)) 31 0 21 (μ 31 0 21 + 1) 31 0 22 = μ 31 0 22 := by rw [up_ne (by decide), up_other (by decide)]
    have a2 : up (up μ 43 0 (μ 31 0 21) (-33)) 31 0 21 (μ 31 0 21 + 1) 31 0 23 = μ 31 0 23 := by rw [up_ne (by decide), up_other (by decide)]
    have a3 : up (up μ 43 0 (μ 31 0 21) (-33)) 31 0 21 (μ 31 0 21 + 1) 44 0 = μ 44 0 := by rw [up_k (by decide), up_k (by decide)]
    have a4 : up (up μ 43 0 (μ 31 0 21) (-33)) 31 0 21 (μ 31 0 21 + 1) 31 0 21 = μ 31 0 21 + 1 := up_same
    generalize up (up μ 43 0 (μ 31 0 21) (-33)) 31 0 21 (μ 31 0 21 + 1) = m at k1 a0 a1 a2 a3 a4 ⊢
    refine B_M_whole_29 (b1 := by rw [a1]; omega) (b2 := by rw [a2]; omega) (k1 := ?_)
    have k2 : KE f c μ (up (up m 31 0 22 (m 31 0 22 - 1)) 31 0 23 (m 31 0 23 - 1)) [-33] := (k1.u (by omega)).u (by omega)
    have c0 : up (up m 31 0 22 (m 31 0 22 - 1)) 31 0 23 (m 31 0 23 - 1) 31 0 11 = μ 31 0 11 := by rw [up_ne (by decide), up_ne (by decide), a0]
    have c1 : up (up m 31 0 22 (m 31 0 22 - 1)) 31 0 23 (m 31 0 23 - 1) 31 0 22 = μ 31 0 22 - 1 := by rw [up_ne (by decide), up_same, a1]
    have c2 : up (up m 31 0 22 (m 31 0 22 - 1)) 31 0 23 (m 31 0 23 - 1) 31 0 23 = μ 31 0 23 - 1 := by rw [up_same, a2]
    have c3 : up (up m 31 0 22 (m 31 0 22 - 1)) 31 0 23 (m 31 0 23 - 1) 44 0 = μ 44 0 := by rw [up_k (by decide), up_k (by decide), a3]
    have c4 : up (up m 31 0 22 (m 31 0 22 - 1)) 31 0 23 (m 31 0 23 - 1) 31 0 21 = μ 31 0 21 + 1 := by rw [up_ne (by decide), up_ne (by decide), a4]
    generalize up (up m 31 0 22 (m 31 0 22 - 1)) 31 0 23 (m 31 0 23 - 1) = m2 at k2 c0 c1 c2 c3 c4 ⊢
    refine ih m2 (fun i i0 i1 => ?_) ?_ (by omega) (by omega) (by omega) (fun m3 k3 d0 d1 d2 d3 => h m3 (k2.tr k3) (d0.trans c0) (by omega) (by omega) (d3.trans c3))
    · rw [c3]; exact h1 i (by omega) (by omega)
    · rw [c1, c3]
      rcases h2 with h2 | h2
      · left; omega
      · right; rw [show μ 31 0 22 - 1 - (j : Int) - 1 = μ 31 0 22 - ((j + 1 : Nat) : Int) - 1 by omega]; exact h2
theorem c_whole (hf : 0 ≤ f ∧ f ≤ 5) (j : Nat) (h1 : ∀ i, μ 31 0 22 - j ≤ i → i < μ 31 0 22 → μ 44 0 i = 33) (h2 : μ 31 0 22 = j ∨ μ 44 0 (μ 31 0 22 - j - 1) ≠ 33) (h3 : (j : Int) ≤ μ 31 0 22 ∧ μ 31 0 22 ≤ 100) (h4 : 100 * f ≤ μ 31 0 21 ∧ μ 31 0 21 + μ 31 0 22 ≤ 100 * f + 100) (h5 : -100 ≤ μ 31 0 23 - j ∧ μ 31 0 23 ≤ 1000) (h : ∀ m, KE f c μ m (rep j) → m 31 0 11 = μ 31 0 11 → m 31 0 22 = μ 31 0 22 - j → m 31 0 23 = μ 31 0 23 - j → m 44 0 = μ 44 0 → Q none m) : Cal g (d + 2) m_M_whole [aR 31 0] μ Q :=
  C_ent rfl (Nat.le_of_ble_eq_true rfl) (l_whole hf j μ h1 h2 h3 h4 h5 h)
/-- one operator is settled -/
theorem l_settle1 (hf : 0 ≤ f ∧ f ≤ 5) (hw : 0 < μ 31 0 22 ∧ μ 31 0 22 ≤ 100) (h4 : 100 * f ≤ μ 31 0 21 ∧ μ 31 0 21 + μ 31 0 22 ≤ 100 * f + 100) (ht : μ 44 0 (μ 31 0 22 - 1) = 38 ∨ (μ 44 0 (μ 31 0 22 - 1) = 124 ∧ x ≠ 38)) (h : ∀ m, KE f c μ m [-(μ 44 0 (μ 31 0 22 - 1))] → m 31 0 11 = μ 31 0 11 → m 31 0 22 = μ 31 0 22 - 1 → m 31 0 23 = μ 31 0 23 → m 44 0 = μ 44 0 → Rn g (d + 1) m_M_settle 0 [some (aR 31 0), some (aI x)] [] m Q) : Rn g (d + 1) m_M_settle 0 [some (aR 31 0), some (aI x)] [] μ Q := by
  have em : Cal g (d + 1) m_M_emits [aR 31 0, aI (-(μ 44 0 (μ 31 0 22 - 1)))] (up μ 31 0 22 (μ 31 0 22 - 1)) (fun rv μ' => Rn g (d + 1) m_M_settle 69 [some (aR 31 0), some (aI x)] (optL rv ++ []) μ' Q) := by
    have s0 : up μ 31 0 22 (μ 31 0 22 - 1) 31 0 21 = μ 31 0 21 := up_ne (by decide)
    refine Cal_le (show 1 ≤ d + 1 by omega) (c_emits (d := 0) (f := f) (c := c) hf (by omega) (fun k1 => B_M_settle_69 (k1 := ?_)))
    have k0 : KE f c μ (up μ 31 0 22 (μ 31 0 22 - 1)) [] := KE.rf.u (by omega)
    exact h _ (k0.tr k1) (by rw [up_ne (by decide), up_other (by decide), up_ne (by decide)]) (by rw [up_ne (by decide), up_other (by decide), up_same]) (by rw [up_ne (by decide), up_other (by decide), up_ne (by decide)]) (by rw [up_k (by decide), up_k (by decide), up_k (by decide)])
  have hv : -1000 ≤ μ 44 0 (μ 31 0 22 - 1) ∧ μ 44 0 (μ 31 0 22 - 1) ≤ 1000 := by rcases ht with e | e; omega; omega
  rcases ht with e | ⟨e, ex⟩
  · exact B_M_settle_0 (b1 := by intros; omega) (b2 := by intros; omega) (b3 := by intros; omega) (b4 := by intros; omega) (b5 := by intros; omega) (b6 := by intros; omega) (b7 := by intros; omega) (b8 := by intros; omega) (b9 := by intros; omega) (b10 := by intros; omega) (k1 := fun z => absurd z (by omega)) (k2 := fun _ _ => em) (k3 := fun _ z => absurd e z) (k4 := fun _ z => absurd e z) (k5 := fun _ z => absurd e z)
  · exact B_M_settle_0 (b1 := by intros; omega) (b2 := by intros; omega) (b3 := by intros; omega) (b4 := by intros; omega) (b5 := by intros; omega) (b6 := by intros; omega) (b7 := by intros; omega) (b8 := by intros; omega) (b9 := by intros; omega) (b10 := by intros; omega) (k1 := fun z => absurd z (by omega)) (k2 := fun _ z => absurd z (by omega)) (k3 := fun _ _ z => absurd e z) (k4 := fun _ _ _ z => absurd z ex) (k5 := fun _ _ _ _ => em)
theorem l_settle0 (hw : 0 ≤ μ 31 0 22 ∧ μ 31 0 22 ≤ 100) (ht : μ 31 0 22 = 0 ∨ (μ 44 0 (μ 31 0 22 - 1) ≠ 38 ∧ (μ 44 0 (μ 31 0 22 - 1) = 124 → x = 38))) (h : Q none μ) : Rn g (d + 1) m_M_settle 0 [some (aR 31 0), some (aI x)] [] μ Q := by
  rcases ht with e | ⟨e, ex⟩
  · exact B_M_settle_0 (b1 := by intros; omega) (b2 := by intros; omega) (b3 := fun z => absurd z (by omega)) (b4 := fun z => absurd z (by omega)) (b5 := fun z => absurd z (by omega)) (b6 := fun z => absurd z (by omega)) (b7 := fun z => absurd z (by omega)) (b8 := fun z => absurd z (by omega)) (b9 := fun z => absurd z (by omega)) (b10 := fun z => absurd z (by omega)) (k1 := fun _ => h) (k2 := fun z => absurd z (by omega)) (k3 := fun z => absurd z (by omega)) (k4 := fun z => absurd z (by omega)) (k5 := fun z => absurd z (by omega))
  · by_cases e2 : μ 44 0 (μ 31 0 22 - 1) = 124
    · have ex' := ex e2
      clear ex
      exact B_M_settle_0 (b1 := by intros; omega) (b2 := by intros; omega) (b3 := fun _ z => absurd z e) (b4 := fun _ z => absurd z e) (b5 := fun _ z => absurd z e) (b6 := by intros; omega) (b7 := by intros; omega) (b8 := fun _ _ _ z => absurd ex' z) (b9 := fun _ _ _ z => absurd ex' z) (b10 := fun _ _ _ z => absurd ex' z) (k1 := fun _ => h) (k2 := fun _ z => absurd z e) (k3 := fun _ _ _ => h) (k4 := fun _ _ _ _ => h) (k5 := fun _ _ _ z => absurd ex' z)
    · clear ex
      exact B_M_settle_0 (b1 := by intros; omega) (b2 := by intros; omega) (b3 := fun _ z => absurd z e) (b4 := fun _ z => absurd z e) (b5 := fun _ z => absurd z e) (b6 := by intros; omega) (b7 := by intros; omega) (b8 := fun _ _ z => absurd z e2) (b9 := fun _ _ z => absurd z e2) (b10 := fun _ _ z => absurd z e2) (k1 := fun _ => h) (k2 := fun _ z => absurd z e) (k3 := fun _ _ _ => h) (k4 := fun _ _ z => absurd z e2) (k5 := fun _ _ z => absurd z e2)
/-- what waits above w: an | if o, an & if a -/
theorem c_settle (hf : 0 ≤ f ∧ f ≤ 5) (o a : Bool) (hx : x = 38 ∨ x = 124) (hw0 : 0 ≤ w) (hw : μ 31 0 22 = w + b2 o + b2 a ∧ μ 31 0 22 ≤ 100) (h4 : 100 * f ≤ μ 31 0 21 ∧ μ 31 0 21 + μ 31 0 22 ≤ 100 * f + 100) (hb : w = 0 ∨ μ 44 0 (w - 1) = 40) (ho : o = true → μ 44 0 w = 124) (ha : a = true → μ 44 0 (w + b2 o) = 38) (h : ∀ m, KE f c μ m ((if a = true then [-38] else []) ++ (if o = true ∧ x = 124 then [-124] else [])) → m 31 0 11 = μ 31 0 11 → m 31 0 22 = w + (if o = true ∧ x = 38 then 1 else 0) → m 31 0 23 = μ 31 0 23 → m 44 0 = μ 44 0 → Q none m) : Cal g (d + 2) m_M_settle [aR 31 0, aI x] μ Q := by
  refine C_ent rfl (Nat.le_of_ble_eq_true rfl) ?_
  show Rn g (d + 1) m_M_settle 0 [some (aR 31 0), some (aI x)] [] μ Q
  -- behind the &
  have st2 : ∀ m, KE f c μ m (if a = true then [-38] else []) → m 31 0 11 = μ 31 0 11 → m 31 0 22 = w + b2 o → m 31 0 23 = μ 31 0 23 → m 44 0 = μ 44 0 → Rn g (d + 1) m_M_settle 0 [some (aR 31 0), some (aI x)] [] m Q := by
    intro m k1 p1 w1 q1 r1
    have ns := k1.nn
    cases o
    · have w1 : m 31 0 22 = w := by rw [w1]; exact Int.add_zero w
      refine l_settle0 (by cases a <;> simp [b2] at hw <;> omega) ?_ ?_
      · rw [w1, r1]
        rcases hb with e | e
        · exact Or.inl e
        · exact Or.inr ⟨by omega, fun z => absurd z (by omega)⟩
      · have := h m (by rw [if_neg (show ¬ (false = true ∧ x = 124) from fun z => absurd z.1 (by decide)), List.append_nil]; exact k1) p1 (by rw [if_neg (show ¬ (false = true ∧ x = 38) from fun z => absurd z.1 (by decide))]; omega) q1 r1
        exact this
    · have w1 : m 31 0 22 = w + 1 := w1
      have ho := ho rfl
      rcases hx with hx | hx
      · subst hx
        refine l_settle0 (by cases a <;> simp [b2] at hw <;> omega) (Or.inr ?_) ?_
        · rw [w1, r1, show w + 1 - 1 = w by omega, ho]; exact ⟨by decide, fun _ => rfl⟩
        · exact h m (by rw [if_neg (show ¬ (true = true ∧ (38 : Int) = 124) by decide), List.append_nil]; exact k1) p1 (by rw [if_pos ⟨rfl, rfl⟩]; exact w1) q1 r1
      · subst hx
        have ht : m 44 0 (m 31 0 22 - 1) = 124 := by rw [w1, r1, show w + 1 - 1 = w by omega]; exact ho
        refine l_settle1 (f := f) (c := c) hf (by cases a <;> simp [b2] at hw <;> omega) (by cases a <;> simp [b2] at hw ns <;> omega) (Or.inr ⟨ht, by decide⟩) (fun m2 k2 p2 w2 q2 r2 => ?_)
        rw [ht] at k2
        refine l_settle0 (by cases a <;> simp [b2] at hw <;> omega) ?_ ?_
        · rw [w2, w1, r2, r1]
          rcases hb with e | e
          · left; omega
          · right; rw [show w + 1 - 1 - 1 = w - 1 by omega]; exact ⟨by omega, fun z => absurd z (by omega)⟩
        · exact h m2 (by rw [if_pos (show true = true ∧ (124 : Int) = 124 from ⟨rfl, rfl⟩)]; exact k1.tr k2) (p2.trans p1) (by rw [if_neg (show ¬ (true = true ∧ (124 : Int) = 38) by decide)]; omega) (q2.trans q1) (r2.trans r1)
  cases a
  · exact st2 μ KE.rf rfl (by rw [hw.1]; exact Int.add_zero _) rfl rfl
  · have hw1 : μ 31 0 22 = w + b2 o + 1 := hw.1
    have ht : μ 44 0 (μ 31 0 22 - 1) = 38 := by rw [hw1, show w + b2 o + 1 - 1 = w + b2 o by omega]; exact ha rfl
    have := b2_01 o
    refine l_settle1 (f := f) (c := c) hf (by omega) h4 (Or.inl ht) (fun m2 k2 p2 w2 q2 r2 => ?_)
    rw [ht] at k2
    exact st2 m2 k2 p2 (by omega) q2 r2
theorem c_M_takesNumber (hc : MTx μ ch n) (hx : Txt ch n) (h0 : 0 ≤ μ 31 0 11 ∧ μ 31 0 11 ≤ n) (h : 0 ≤ (numF ch (μ 31 0 11)).1 → ∀ m, Tch (fun k i j => k = 31 ∧ i = 0 ∧ (j = 11 ∨ j = 12)) μ m → m 31 0 11 = (numF ch (μ 31 0 11)).2 → m 31 0 12 = (numF ch (μ 31 0 11)).1 → Q (some (aI 1)) m) (hN : (numF ch (μ 31 0 11)).1 < 0 → Q (some (aI 0)) μ) : Cal g (d + 3) m_M_takesNumber [aR 31 0] μ Q := by
  have e0 := hc.nx hx h0.1
  have hx1 := hx.1
  have hc1 := hc.1
  refine T_M_takesNumber (d := d) (b1 := h0.1) (b2 := by omega) (k1 := fun z => ?_) (k2 := fun z => ?_)
  · rw [e0] at z
    have l1 := hx.lt (p := μ 31 0 11) (by omega)
    -- the first
    have a0 : up μ 31 0 12 0 31 0 11 = μ 31 0 11 := up_ne (by decide)
    have a1 : up μ 31 0 12 0 31 0 12 = 0 := up_same
    have t0 : Tch (fun k i j => k = 31 ∧ i = 0 ∧ (j = 11 ∨ j = 12)) μ (up μ 31 0 12 0) := Tch.rf.up (by omega)
    have c0 : MTx (up μ 31 0 12 0) ch n := ⟨by rw [up_ne (by decide)]; exact hc.1, fun p p0 p1 => by rw [up_other (by decide)]; exact hc.2 p p0 p1⟩
    generalize up μ 31 0 12 0 = m at a0 a1 t0 c0 ⊢
    have e1 := c0.nx hx (p := m 31 0 11) (by omega)
    rw [a0] at e1
    have cn := c0.1
    refine B_M_takesNumber_16 (b1 := by rw [a0]; intros; omega) (b2 := by intros; omega) (b3 := by rw [a1]; intros; omega) (b4 := by rw [a0]; intros; omega) (b5 := by intros; omega) (b6 := by rw [a0, e1, a1]; intros; omega) (b7 := by rw [a0, e1, a1]; intros; omega) (b8 := by rw [a0]; intros; omega) (b9 := by intros; omega) (k1 := fun z => absurd z (by omega)) (k2 := fun _ y => absurd (by rw [a0, e1]; exact z) y) (k3 := fun _ _ => ?_)
    rw [a0, e1, a1]
    have b0 : up (up m 31 0 12 (10 * 0 + ch (μ 31 0 11) - 48)) 31 0 11 (μ 31 0 11 + 1) 31 0 11 = μ 31 0 11 + 1 := up_same
    have b1 : up (up m 31 0 12 (10 * 0 + ch (μ 31 0 11) - 48)) 31 0 11 (μ 31 0 11 + 1) 31 0 12 = ch (μ 31 0 11) - 48 := by rw [up_ne (by decide), up_same]; omega
    have t1 : Tch (fun k i j => k = 31 ∧ i = 0 ∧ (j = 11 ∨ j = 12)) μ (up (up m 31 0 12 (10 * 0 + ch (μ 31 0 11) - 48)) 31 0 11 (μ 31 0 11 + 1)) := (t0.up (by omega)).up (by omega)
    have c1 : MTx (up (up m 31 0 12 (10 * 0 + ch (μ 31 0 11) - 48)) 31 0 11 (μ 31 0 11 + 1)) ch n := ⟨by rw [up_ne (by decide), up_ne (by decide)]; exact c0.1, fun p p0 p1 => by rw [up_other (by decide), up_other (by decide)]; exact c0.2 p p0 p1⟩
    generalize up (up m 31 0 12 (10 * 0 + ch (μ 31 0 11) - 48)) 31 0 11 (μ 31 0 11 + 1) = m1 at b0 b1 t1 c1 ⊢
    have e2 := c1.nx hx (p := m1 31 0 11) (by omega)
    rw [b0] at e2
    have cn1 := c1.1
    refine B_M_takesNumber_16 (b1 := by rw [b0]; intros; omega) (b2 := by intros; omega) (b3 := by rw [b1]; intros; omega) (b4 := by rw [b0]; intros; omega) (b5 := by intros; omega) (b6 := by rw [b0, e2, b1]; intros; omega) (b7 := by rw [b0, e2, b1]; intros; omega) (b8 := by rw [b0]; intros; omega) (b9 := by intros; omega) (k1 := fun z => absurd z (by omega)) (k2 := fun _ y => ?_) (k3 := fun _ y => ?_)
    · rw [b0, e2] at y
      have en : numF ch (μ 31 0 11) = (ch (μ 31 0 11) - 48, μ 31 0 11 + 1) := by unfold numF; rw [if_pos z, if_neg y]
      rw [en] at h
      exact h (by show 0 ≤ ch (μ 31 0 11) - 48; omega) m1 t1 b0 b1
    · rw [b0, e2] at y ⊢
      rw [b1]
      have en : numF ch (μ 31 0 11) = (10 * (ch (μ 31 0 11) - 48) + ch (μ 31 0 11 + 1) - 48, μ 31 0 11 + 2) := by unfold numF; rw [if_pos z, if_pos y]
      rw [en] at h
      refine B_M_takesNumber_16 (b1 := fun z => absurd z (by omega)) (b2 := fun z => absurd z (by omega)) (b3 := fun z => absurd z (by omega)) (b4 := fun z => absurd z (by omega)) (b5 := fun z => absurd z (by omega)) (b6 := fun z => absurd z (by omega)) (b7 := fun z => absurd z (by omega)) (b8 := fun z => absurd z (by omega)) (b9 := fun z => absurd z (by omega)) (k1 := fun _ => ?_) (k2 := fun z => absurd z (by omega)) (k3 := fun z => absurd z (by omega))
      refine h (by show 0 ≤ 10 * (ch (μ 31 0 11) - 48) + ch (μ 31 0 11 + 1) - 48; omega) _ ((t1.up (by omega)).up (by omega)) ?_ ?_
      · rw [up_same]; show μ 31 0 11 + 1 + 1 = μ 31 0 11 + 2; omega
      · rw [up_ne (by decide), up_same]
  · rw [e0] at z
    refine hN ?_
    unfold numF; rw [if_neg z]; show (-1 : Int) < 0; decide
end
