/-! What is meant: people, days. -/
def fo {α : Type} (f : α → Int → α) (a : α) : Nat → α
  | 0 => a
  | k + 1 => f (fo f a k) (k : Int)
def fI {α : Type} (f : α → Int → α) (a : α) (p : Int) : α := fo f a p.toNat
theorem fI_0 {α : Type} {f : α → Int → α} {a : α} : fI f a 0 = a := rfl
theorem fI_s {α : Type} {f : α → Int → α} {a : α} {p : Int} (h : 0 ≤ p) : fI f a (p + 1) = f (fI f a p) p := by
  unfold fI
  rw [show (p + 1).toNat = p.toNat + 1 by omega]
  simp only [fo]
  rw [show ((p.toNat : Nat) : Int) = p by omega]
theorem loopR {α : Type} {n : Int} (S : Int → α → Prop) (I : Int → α → Prop) (hb : ∀ p a, 0 ≤ p → p < n → I p a → (∀ a', I (p + 1) a' → S (p + 1) a') → S p a) (he : ∀ a, I n a → S n a) : ∀ p a, 0 ≤ p → p ≤ n → I p a → S p a := by
  have key : ∀ (k : Nat) (p : Int) (a : α), (n - p).toNat = k → 0 ≤ p → p ≤ n → I p a → S p a := by
    intro k
    induction k with
    | zero =>
      intro p a hk h0 hn hi
      have : p = n := by omega
      subst this; exact he a hi
    | succ k ih =>
      intro p a hk h0 hn hi
      exact hb p a h0 (by omega) hi (fun a' hi' => ih (p + 1) a' (by omega) (by omega) (by omega) hi')
  intro p a h0 hn hi
  exact key _ p a rfl h0 hn hi
def t6 (f : Int → Int) : Int → Int := fun i => if 0 ≤ i ∧ i < 6 then f i else 0
def t24 (f : Int → Int) : Int → Int := fun i => if 0 ≤ i ∧ i < 24 then f i else 0
theorem t6_in {f : Int → Int} {i : Int} (h : 0 ≤ i) (h2 : i < 6) : t6 f i = f i := if_pos ⟨h, h2⟩
theorem t24_in {f : Int → Int} {i : Int} (h : 0 ≤ i) (h2 : i < 24) : t24 f i = f i := if_pos ⟨h, h2⟩
theorem t6_ext {f f' : Int → Int} (h : ∀ i, 0 ≤ i → i < 6 → f i = f' i) : t6 f = t6 f' := by
  funext i; unfold t6; split
  · rename_i z; exact h i z.1 z.2
  · rfl
theorem t24_ext {f f' : Int → Int} (h : ∀ i, 0 ≤ i → i < 24 → f i = f' i) : t24 f = t24 f' := by
  funext i; unfold t24; split
  · rename_i z; exact h i z.1 z.2
  · rfl
theorem t6_at {f f' : Int → Int} (h : t6 f = t6 f') {i : Int} (h0 : 0 ≤ i) (h2 : i < 6) : f i = f' i := by
  have := congrFun h i
  rw [t6_in h0 h2, t6_in h0 h2] at this; exact this
theorem t24_at {f f' : Int → Int} (h : t24 f = t24 f') {i : Int} (h0 : 0 ≤ i) (h2 : i < 24) : f i = f' i := by
  have := congrFun h i
  rw [t24_in h0 h2, t24_in h0 h2] at this; exact this
/-- number, day, kinds, v, due, off, away, rows -/
abbrev Vw : Type := Int × Int × (Int → Int) × (Int → Int) × (Int → Int) × (Int → Int) × (Int → Int) × (Int → Int)
abbrev Twn : Type := (Int → Int → Int → Int → Int → Int → Int) × Int × Int
def vn (V : Vw) : Int := V.1
def vd (V : Vw) : Int := V.2.1
def vk (V : Vw) : Int → Int := V.2.2.1
def vv (V : Vw) : Int → Int := V.2.2.2.1
def vu (V : Vw) : Int → Int := V.2.2.2.2.1
def vo (V : Vw) : Int → Int := V.2.2.2.2.2.1
def va (V : Vw) : Int → Int := V.2.2.2.2.2.2.1
def vr (V : Vw) : Int → Int := V.2.2.2.2.2.2.2
def setO (V : Vw) (o : Int → Int) : Vw := (V.1, V.2.1, V.2.2.1, V.2.2.2.1, V.2.2.2.2.1, o, V.2.2.2.2.2.2.1, V.2.2.2.2.2.2.2)
def setU (V : Vw) (o : Int → Int) : Vw := (V.1, V.2.1, V.2.2.1, V.2.2.2.1, o, V.2.2.2.2.2.1, V.2.2.2.2.2.2.1, V.2.2.2.2.2.2.2)
def setA (V : Vw) (o : Int → Int) : Vw := (V.1, V.2.1, V.2.2.1, V.2.2.2.1, V.2.2.2.2.1, V.2.2.2.2.2.1, o, V.2.2.2.2.2.2.2)
def setN (V : Vw) (o : Int → Int) : Vw := (V.1, V.2.1, V.2.2.1, o, V.2.2.2.2.1, V.2.2.2.2.2.1, V.2.2.2.2.2.2.1, V.2.2.2.2.2.2.2)
def setD (V : Vw) (d : Int) : Vw := (V.1, d, V.2.2.1, V.2.2.2.1, V.2.2.2.2.1, V.2.2.2.2.2.1, V.2.2.2.2.2.2.1, V.2.2.2.2.2.2.2)
def pu (f : Int → Int) (p x : Int) : Int → Int := fun i => if i = p then x else f i
/-- the people of a crowd of the class, of the reference -/
def vC (μ : aM) (a : Int) : Vw := (μ 2 a 0, μ 2 a 1, t6 (μ 3 a), t6 (μ 4 a), t6 (μ 5 a), t6 (μ 6 a), t6 (μ 7 a), t24 (μ 8 a))
def hasB (s k : Int) : Prop := b_and (b_shr s k) 1 = 1
theorem hasB_dec (s k : Int) : hasB s k ↔ b_and (b_shr s k) 1 = 1 := Iff.rfl
def bitF (s k : Int) : Int := bI (b_and (b_shr s k) 1 = 1)
def vM (μ : aM) : Vw := (μ 31 0 0, μ 31 0 1, t6 (μ 32 0), t6 (μ 33 0), t6 (μ 34 0), t6 (μ 35 0), t6 (bitF (μ 31 0 2)), t24 (μ 36 0))
def VOk (B : Int) (V : Vw) : Prop := (0 ≤ vn V ∧ vn V ≤ 6) ∧ (0 ≤ vd V ∧ vd V ≤ B) ∧ ∀ i, 0 ≤ i → i < 6 → (0 ≤ vk V i ∧ vk V i ≤ 6) ∧ (0 ≤ vv V i ∧ vv V i ≤ 9) ∧ (0 ≤ vu V i ∧ vu V i ≤ 99) ∧ (-999 ≤ vo V i ∧ vo V i ≤ 999) ∧ (va V i = 0 ∨ va V i = 1) ∧ ∀ j, 0 ≤ j → j < 4 → 0 ≤ vr V (4 * i + j) ∧ vr V (4 * i + j) ≤ 9
def worstV (V : Vw) : Int := fI (fun m p => i_max m (i_abs (vo V p))) 0 (vn V)
def widthV (V : Vw) : Int := if vn V = 0 then 0 else fI (fun m p => i_max m (vo V (p + 1))) (vo V 0) (vn V - 1) - fI (fun m p => i_min m (vo V (p + 1))) (vo V 0) (vn V - 1)
def togV (V : Vw) : Int := fI (fun m p => m + i_abs (vo V p)) 0 (vn V)
/-- the offs stay in their bounds -/
theorem max_rng {n : Int} {o : Int → Int} {s : Int} (ho : ∀ i, 0 ≤ i → i < n → -999 ≤ o i ∧ o i ≤ 999) (hs : -999 ≤ s ∧ s ≤ 999) : ∀ p, 0 ≤ p → p ≤ n → -999 ≤ fI (fun m p => i_max m (o p)) s p ∧ fI (fun m p => i_max m (o p)) s p ≤ 999 := by
  intro p h0 hn
  obtain ⟨k, rfl⟩ : ∃ k : Nat, p = (k : Int) := ⟨p.toNat, by omega⟩
  induction k with
  | zero => exact hs
  | succ k ih =>
    have := ih (by omega) (by omega)
    rw [show ((k + 1 : Nat) : Int) = (k : Int) + 1 by omega, fI_s (by omega)]
    have := ho k (by omega) (by omega)
    generalize fI (fun m p => i_max m (o p)) s (k : Int) = y at *
    show -999 ≤ i_max y (o k) ∧ i_max y (o k) ≤ 999
    unfold i_max; split <;> omega
theorem min_rng {n : Int} {o : Int → Int} {s : Int} (ho : ∀ i, 0 ≤ i → i < n → -999 ≤ o i ∧ o i ≤ 999) (hs : -999 ≤ s ∧ s ≤ 999) : ∀ p, 0 ≤ p → p ≤ n → -999 ≤ fI (fun m p => i_min m (o p)) s p ∧ fI (fun m p => i_min m (o p)) s p ≤ 999 := by
  intro p h0 hn
  obtain ⟨k, rfl⟩ : ∃ k : Nat, p = (k : Int) := ⟨p.toNat, by omega⟩
  induction k with
  | zero => exact hs
  | succ k ih =>
    have := ih (by omega) (by omega)
    rw [show ((k + 1 : Nat) : Int) = (k : Int) + 1 by omega, fI_s (by omega)]
    have := ho k (by omega) (by omega)
    generalize fI (fun m p => i_min m (o p)) s (k : Int) = y at *
    show -999 ≤ i_min y (o k) ∧ i_min y (o k) ≤ 999
    unfold i_min; split <;> omega
theorem sum_rng {n : Int} {o : Int → Int} (ho : ∀ i, 0 ≤ i → i < n → -999 ≤ o i ∧ o i ≤ 999) : ∀ p, 0 ≤ p → p ≤ n → 0 ≤ fI (fun m p => m + i_abs (o p)) 0 p ∧ fI (fun m p => m + i_abs (o p)) 0 p ≤ 999 * p := by
  intro p h0 hn
  obtain ⟨k, rfl⟩ : ∃ k : Nat, p = (k : Int) := ⟨p.toNat, by omega⟩
  induction k with
  | zero => show 0 ≤ (0 : Int) ∧ (0 : Int) ≤ 999 * ((0 : Nat) : Int); omega
  | succ k ih =>
    have := ih (by omega) (by omega)
    rw [show ((k + 1 : Nat) : Int) = (k : Int) + 1 by omega, fI_s (by omega)]
    have h9 := ho k (by omega) (by omega)
    generalize fI (fun m p => m + i_abs (o p)) 0 (k : Int) = y at *
    show 0 ≤ y + i_abs (o k) ∧ y + i_abs (o k) ≤ 999 * ((k : Int) + 1)
    rw [i_abs_e (by omega) (by omega)]; split <;> omega
theorem abs_rng {x : Int} (h : -999 ≤ x ∧ x ≤ 999) : 0 ≤ i_abs x ∧ i_abs x ≤ 999 := by
  rw [i_abs_e (by omega) (by omega)]; split <;> omega
theorem fI_cong {α : Type} {f f' : α → Int → α} {a : α} {n : Int} (h : ∀ b i, 0 ≤ i → i < n → f b i = f' b i) : ∀ p, 0 ≤ p → p ≤ n → fI f a p = fI f' a p := by
  intro p h0 hn
  obtain ⟨k, rfl⟩ : ∃ k : Nat, p = (k : Int) := ⟨p.toNat, by omega⟩
  induction k with
  | zero => rfl
  | succ k ih =>
    rw [show ((k + 1 : Nat) : Int) = (k : Int) + 1 by omega, fI_s (by omega), fI_s (by omega), ih (by omega) (by omega), h _ _ (by omega) (by omega)]
/-! Crowd: worst, width, together; the reference's wrong, spread -/
section
variable {g : aG} {d : Nat} {μ : aM} {Q : aQ} {a B : Int}
theorem vok_n (h : VOk B (vC μ a)) : 0 ≤ μ 2 a 0 ∧ μ 2 a 0 ≤ 6 := h.1
theorem vok_o (h : VOk B (vC μ a)) {i : Int} (h0 : 0 ≤ i) (h6 : i < 6) : -999 ≤ μ 6 a i ∧ μ 6 a i ≤ 999 := by
  have := (h.2.2 i h0 h6).2.2.2.1
  unfold vo vC at this; dsimp only at this; rw [t6_in h0 h6] at this; exact this
theorem vokM_n (h : VOk B (vM μ)) : 0 ≤ μ 31 0 0 ∧ μ 31 0 0 ≤ 6 := h.1
theorem vokM_o (h : VOk B (vM μ)) {i : Int} (h0 : 0 ≤ i) (h6 : i < 6) : -999 ≤ μ 35 0 i ∧ μ 35 0 i ≤ 999 := by
  have := (h.2.2 i h0 h6).2.2.2.1
  unfold vo vM at this; dsimp only at this; rw [t6_in h0 h6] at this; exact this
theorem vo_C {i : Int} (h0 : 0 ≤ i) (h6 : i < 6) : vo (vC μ a) i = μ 6 a i := t6_in h0 h6
theorem vo_M {i : Int} (h0 : 0 ≤ i) (h6 : i < 6) : vo (vM μ) i = μ 35 0 i := t6_in h0 h6
theorem c_Cr_worst (hV : VOk B (vC μ a)) (h : Q (some (aI (worstV (vC μ a)))) μ) : Cal g (d + 1) m_Cr_worst [aR 2 a] μ Q := by
  have hn := vok_n hV
  refine T_Cr_worst (loopR (n := μ 2 a 0) (fun p x => Rn g d m_Cr_worst 4 [some (aR 2 a), some (aI x), some (aI p)] [] μ Q) (fun p x => x = fI (fun m p => i_max m (i_abs (vo (vC μ a) p))) 0 p) ?_ ?_ 0 0 (by omega) hn.1 rfl)
  · intro p x h0 hp hx ih
    refine B_Cr_worst_4 (k1 := fun z => absurd z (by omega)) (k2 := fun _ => ih _ ?_)
    rw [fI_s h0, vo_C h0 (by omega), hx]
  · intro x hx
    refine B_Cr_worst_4 (k1 := fun _ => ?_) (k2 := fun z => absurd z (by omega))
    rw [hx]; exact h
theorem c_M_wrong (hV : VOk B (vM μ)) (h : Q (some (aI (worstV (vM μ)))) μ) : Cal g (d + 2) m_M_wrong [aR 31 0] μ Q := by
  have hn := vokM_n hV
  refine T_M_wrong (loopR (n := μ 31 0 0) (fun p x => Rn g (d + 1) m_M_wrong 4 [some (aR 31 0), some (aI x), some (aI p)] [] μ Q) (fun p x => x = fI (fun m p => i_max m (i_abs (vo (vM μ) p))) 0 p) ?_ ?_ 0 0 (by omega) hn.1 rfl)
  · intro p x h0 hp hx ih
    have ho := vokM_o hV h0 (show p < 6 by omega)
    have e : i_max x (i_abs (μ 35 0 p)) = fI (fun m p => i_max m (i_abs (vo (vM μ) p))) 0 (p + 1) := by rw [fI_s h0, vo_M h0 (by omega), hx]
    refine B_M_wrong_4 (k1 := fun z => absurd z (by omega)) (k2 := fun _ z => ih _ ?_) (k3 := fun _ z => ih _ ?_)
    all_goals rw [← e]; unfold i_max; split <;> omega
  · intro x hx
    refine B_M_wrong_4 (k1 := fun _ => ?_) (k2 := fun z => absurd z (by omega)) (k3 := fun z => absurd z (by omega)) (b1 := fun z => absurd z (by omega)) (b2 := fun z => absurd z (by omega))
    rw [hx]; exact h
theorem c_Cr_width (hV : VOk B (vC μ a)) (h : Q (some (aI (widthV (vC μ a)))) μ) : Cal g (d + 1) m_Cr_width [aR 2 a] μ Q := by
  have hn := vok_n hV
  have hvn : vn (vC μ a) = μ 2 a 0 := rfl
  refine T_Cr_width (k1 := fun hz => ?_) (k2 := fun hz => ?_)
  · have e0 : vo (vC μ a) 0 = μ 6 a 0 := vo_C (by omega) (by omega)
    refine loopR (n := μ 2 a 0 - 1) (fun p (x : Int × Int) => Rn g d m_Cr_width 25 [some (aR 2 a), some (aI x.1), some (aI x.2), some (aI (p + 1))] [] μ Q) (fun p x => x.1 = fI (fun m p => i_max m (vo (vC μ a) (p + 1))) (vo (vC μ a) 0) p ∧ x.2 = fI (fun m p => i_min m (vo (vC μ a) (p + 1))) (vo (vC μ a) 0) p) ?_ ?_ 0 (μ 6 a 0, μ 6 a 0) (by omega) (by omega) ⟨e0.symm, e0.symm⟩
    · intro p x h0 hp hx ih
      refine B_Cr_width_25 (k1 := fun z => absurd z (by omega)) (k2 := fun _ => ih (i_max x.1 (μ 6 a (p + 1)), i_min x.2 (μ 6 a (p + 1))) ⟨?_, ?_⟩) (b1 := fun z => absurd z (by omega))
      · rw [fI_s h0, ← hx.1, vo_C (i := p + 1) (by omega) (by omega)]
      · rw [fI_s h0, ← hx.2, vo_C (i := p + 1) (by omega) (by omega)]
    · intro x hx
      have ho : ∀ i, 0 ≤ i → i < μ 2 a 0 - 1 → -999 ≤ vo (vC μ a) (i + 1) ∧ vo (vC μ a) (i + 1) ≤ 999 := fun i h1 h2 => by rw [vo_C (by omega) (by omega)]; exact vok_o hV (by omega) (by omega)
      have h1 := max_rng (s := vo (vC μ a) 0) ho (by rw [e0]; exact vok_o hV (by omega) (by omega)) (μ 2 a 0 - 1) (by omega) (by omega)
      have h2 := min_rng (s := vo (vC μ a) 0) ho (by rw [e0]; exact vok_o hV (by omega) (by omega)) (μ 2 a 0 - 1) (by omega) (by omega)
      rw [← hx.1] at h1
      rw [← hx.2] at h2
      refine B_Cr_width_25 (k1 := fun _ => ?_) (k2 := fun z => absurd z (by omega))
      unfold widthV at h
      rw [hvn, if_neg hz, ← hx.1, ← hx.2] at h
      exact h
  · unfold widthV at h
    rw [hvn, if_pos hz] at h
    exact h
theorem c_M_spread (hV : VOk B (vM μ)) (h : Q (some (aI (widthV (vM μ)))) μ) : Cal g (d + 1) m_M_spread [aR 31 0] μ Q := by
  have hn := vokM_n hV
  have hvn : vn (vM μ) = μ 31 0 0 := rfl
  refine T_M_spread (k1 := fun hz => ?_) (k2 := fun hz => ?_)
  · have e0 : vo (vM μ) 0 = μ 35 0 0 := vo_M (by omega) (by omega)
    refine loopR (n := μ 31 0 0 - 1) (fun p (x : Int × Int) => Rn g d m_M_spread 25 [some (aR 31 0), some (aI x.2), some (aI x.1), some (aI (p + 1))] [] μ Q) (fun p x => x.1 = fI (fun m p => i_max m (vo (vM μ) (p + 1))) (vo (vM μ) 0) p ∧ x.2 = fI (fun m p => i_min m (vo (vM μ) (p + 1))) (vo (vM μ) 0) p) ?_ ?_ 0 (μ 35 0 0, μ 35 0 0) (by omega) (by omega) ⟨e0.symm, e0.symm⟩
    · intro p x h0 hp hx ih
      have e1 : i_max x.1 (μ 35 0 (p + 1)) = fI (fun m p => i_max m (vo (vM μ) (p + 1))) (vo (vM μ) 0) (p + 1) := by rw [fI_s h0, ← hx.1, vo_M (i := p + 1) (by omega) (by omega)]
      have e2 : i_min x.2 (μ 35 0 (p + 1)) = fI (fun m p => i_min m (vo (vM μ) (p + 1))) (vo (vM μ) 0) (p + 1) := by rw [fI_s h0, ← hx.2, vo_M (i := p + 1) (by omega) (by omega)]
      unfold i_max at e1
      unfold i_min at e2
      refine B_M_spread_25 (k1 := fun z => absurd z (by omega)) (b1 := fun z => absurd z (by omega)) (k2 := fun _ z1 z2 => ih (x.1, x.2) ⟨?_, ?_⟩) (k3 := fun _ z1 z2 => ih (μ 35 0 (p + 1), x.2) ⟨?_, ?_⟩) (k4 := fun _ z1 z2 => ih (x.1, μ 35 0 (p + 1)) ⟨?_, ?_⟩) (k5 := fun _ z1 z2 => ih (μ 35 0 (p + 1), μ 35 0 (p + 1)) ⟨?_, ?_⟩)
      · rw [if_neg (by omega)] at e1; exact e1
      · rw [if_neg (by omega)] at e2; exact e2
      · rw [if_pos (by omega)] at e1; exact e1
      · rw [if_neg (by omega)] at e2; exact e2
      · rw [if_neg (by omega)] at e1; exact e1
      · rw [if_pos (by omega)] at e2; exact e2
      · rw [if_pos (by omega)] at e1; exact e1
      · rw [if_pos (by omega)] at e2; exact e2
    · intro x hx
      have ho : ∀ i, 0 ≤ i → i < μ 31 0 0 - 1 → -999 ≤ vo (vM μ) (i + 1) ∧ vo (vM μ) (i + 1) ≤ 999 := fun i h1 h2 => by rw [vo_M (by omega) (by omega)]; exact vokM_o hV (by omega) (by omega)
      have h1 := max_rng (s := vo (vM μ) 0) ho (by rw [e0]; exact vokM_o hV (by omega) (by omega)) (μ 31 0 0 - 1) (by omega) (by omega)
      have h2 := min_rng (s := vo (vM μ) 0) ho (by rw [e0]; exact vokM_o hV (by omega) (by omega)) (μ 31 0 0 - 1) (by omega) (by omega)
      rw [← hx.1] at h1
      rw [← hx.2] at h2
      refine B_M_spread_25 (k1 := fun _ => ?_) (k2 := fun z => absurd z (by omega)) (k3 := fun z => absurd z (by omega)) (k4 := fun z => absurd z (by omega)) (k5 := fun z => absurd z (by omega))
      unfold widthV at h
      rw [hvn, if_neg hz, ← hx.1, ← hx.2] at h
      exact h
  · unfold widthV at h
    rw [hvn, if_pos hz] at h
    exact h
theorem c_Cr_together (hV : VOk B (vC μ a)) (h : Q (some (aI (togV (vC μ a)))) μ) : Cal g (d + 1) m_Cr_together [aR 2 a] μ Q := by
  have hn := vok_n hV
  have ho : ∀ i, 0 ≤ i → i < μ 2 a 0 → -999 ≤ vo (vC μ a) i ∧ vo (vC μ a) i ≤ 999 := fun i h1 h2 => by rw [vo_C (by omega) (by omega)]; exact vok_o hV (by omega) (by omega)
  refine T_Cr_together (loopR (n := μ 2 a 0) (fun p x => Rn g d m_Cr_together 4 [some (aR 2 a), some (aI x), some (aI p)] [] μ Q) (fun p x => x = fI (fun m p => m + i_abs (vo (vC μ a) p)) 0 p) ?_ ?_ 0 0 (by omega) hn.1 rfl)
  · intro p x h0 hp hx ih
    have h1 := sum_rng ho p h0 (by omega)
    have h2 := abs_rng (vok_o hV h0 (show p < 6 by omega))
    rw [← hx] at h1
    refine B_Cr_together_4 (k1 := fun z => absurd z (by omega)) (k2 := fun _ => ih _ ?_)
    rw [fI_s h0, vo_C h0 (by omega), hx]
  · intro x hx
    refine B_Cr_together_4 (k1 := fun _ => ?_) (k2 := fun z => absurd z (by omega)) (b2 := fun z => absurd z (by omega))
    rw [hx]; exact h
theorem c_Cr_wrongOrSpread {x1 : Int} (hV : VOk B (vC μ a)) (h : Q (some (aI (if x1 = 0 then worstV (vC μ a) else widthV (vC μ a)))) μ) : Cal g (d + 2) m_Cr_wrongOrSpread [aR 2 a, aI x1] μ Q := by
  refine T_Cr_wrongOrSpread (k1 := fun hz => ?_) (k2 := fun hz => ?_)
  · rw [if_neg hz] at h
    exact c_Cr_width hV (B_Cr_wrongOrSpread_15 (k1 := h))
  · rw [if_pos hz] at h
    exact c_Cr_worst hV (B_Cr_wrongOrSpread_8 (k1 := h))
def bitsF (f : Int → Int) : Int := f 0 + 2 * f 1 + 4 * f 2 + 8 * f 3 + 16 * f 4 + 32 * f 5
theorem aw_tab : ∀ (n : Fin 7) (b0 b1 b2 b3 b4 b5 : Bool), (∀ i : Fin 6, n.val ≤ i.val → ([b0, b1, b2, b3, b4, b5].getD i.val false) = false) → fo (fun b (p : Int) => if ([b0, b1, b2, b3, b4, b5].getD p.toNat false) then b_or b (b_shl 1 p) else b) 0 n.val = (bif b0 then 1 else 0) + 2 * (bif b1 then 1 else 0) + 4 * (bif b2 then 1 else 0) + 8 * (bif b3 then 1 else 0) + 16 * (bif b4 then 1 else 0) + 32 * (bif b5 then 1 else 0) := by decide +kernel
theorem aw_bits {n : Int} {f : Int → Int} (hn : 0 ≤ n ∧ n ≤ 6) (hf : ∀ i, 0 ≤ i → i < 6 → f i = 0 ∨ f i = 1) (hz : ∀ i, n ≤ i → i < 6 → f i = 0) : fI (fun b p => if f p = 0 then b else b_or b (b_shl 1 p)) 0 n = bitsF f := by
  have hb : ∀ i, 0 ≤ i → i < 6 → f i = bif decide (f i = 1) then 1 else 0 := fun i h0 h6 => by
    rcases hf i h0 h6 with e | e <;> rw [e] <;> rfl
  have key := aw_tab ⟨n.toNat, by omega⟩ (decide (f 0 = 1)) (decide (f 1 = 1)) (decide (f 2 = 1)) (decide (f 3 = 1)) (decide (f 4 = 1)) (decide (f 5 = 1)) (by
    intro i hi
    have := hz i.val (by simp at hi; omega) (by omega)
    match i, this with
    | ⟨0, _⟩, h => simpa using (by have h : f 0 = 0 := h; omega : f 0 ≠ 1)
    | ⟨1, _⟩, h => simpa using (by have h : f 1 = 0 := h; omega : f 1 ≠ 1)
    | ⟨2, _⟩, h => simpa using (by have h : f 2 = 0 := h; omega : f 2 ≠ 1)
    | ⟨3, _⟩, h => simpa using (by have h : f 3 = 0 := h; omega : f 3 ≠ 1)
    | ⟨4, _⟩, h => simpa using (by have h : f 4 = 0 := h; omega : f 4 ≠ 1)
    | ⟨5, _⟩, h => simpa using (by have h : f 5 = 0 := h; omega : f 5 ≠ 1))
  rw [← hb 0 (by omega) (by omega), ← hb 1 (by omega) (by omega), ← hb 2 (by omega) (by omega), ← hb 3 (by omega) (by omega), ← hb 4 (by omega) (by omega), ← hb 5 (by omega) (by omega)] at key
  unfold bitsF
  rw [← key]
  refine fI_cong (n := n) (fun b i h0 hi => ?_) n hn.1 (Int.le_refl _)
  have hcase : i = 0 ∨ i = 1 ∨ i = 2 ∨ i = 3 ∨ i = 4 ∨ i = 5 := by omega
  rcases hcase with rfl | rfl | rfl | rfl | rfl | rfl
  all_goals
    rcases hf _ (by omega) (by omega) with e | e
    all_goals simp [e]
theorem c_Cr_awayBits (hV : VOk B (vC μ a)) (hz : ∀ i, μ 2 a 0 ≤ i → i < 6 → μ 7 a i = 0) (h : Q (some (aI (bitsF (μ 7 a)))) μ) : Cal g (d + 1) m_Cr_awayBits [aR 2 a] μ Q := by
  have hn := vok_n hV
  have hf : ∀ i, 0 ≤ i → i < 6 → μ 7 a i = 0 ∨ μ 7 a i = 1 := fun i h0 h6 => by
    have := (hV.2.2 i h0 h6).2.2.2.2.1
    unfold va vC at this; dsimp only at this; rw [t6_in h0 h6] at this; exact this
  rw [← aw_bits hn hf hz] at h
  refine T_Cr_awayBits (loopR (n := μ 2 a 0) (fun p x => Rn g d m_Cr_awayBits 4 [some (aR 2 a), some (aI x), some (aI p)] [] μ Q) (fun p x => x = fI (fun b p => if μ 7 a p = 0 then b else b_or b (b_shl 1 p)) 0 p) ?_ ?_ 0 0 (by omega) hn.1 rfl)
  · intro p x h0 hp hx ih
    refine B_Cr_awayBits_4 (k1 := fun z => absurd z (by omega)) (k2 := fun _ z => ih _ ?_) (k3 := fun _ z => ih _ ?_)
    · rw [fI_s h0, if_pos z]; exact hx
    · rw [fI_s h0, if_neg z, hx]
  · intro x hx
    refine B_Cr_awayBits_4 (k1 := fun _ => ?_) (k2 := fun z => absurd z (by omega)) (k3 := fun z => absurd z (by omega))
    rw [hx]; exact h
end
