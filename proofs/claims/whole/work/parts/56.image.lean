/-! THE IMAGE. -/
def capN (a : Int) : Int := if a % 3 = 0 then 5 else if a % 3 = 1 then 10 else 8
/-- cells of the rows of kind k, filled from those of kind f k, where D says so -/
def Cp (D : Nat → Int → Prop) (f : Nat → Nat) (m0 m : aM) : Prop := ∀ k i j, (¬ (i = 0 ∧ D k j) → m k i j = m0 k i j) ∧ (D k j → m k 0 j = m0 (f k) 0 j)
theorem Cp.rf {D : Nat → Int → Prop} {f : Nat → Nat} {m0 : aM} (h : ∀ k j, ¬ D k j) : Cp D f m0 m0 := fun k i j => ⟨fun _ => rfl, fun z => absurd z (h k j)⟩
theorem Cp.cong {D D' : Nat → Int → Prop} {f : Nat → Nat} {m0 m : aM} (h : Cp D f m0 m) (e : ∀ k j, D' k j ↔ D k j) : Cp D' f m0 m := fun k i j => ⟨fun z => (h k i j).1 (fun y => z ⟨y.1, (e k j).2 y.2⟩), fun z => (h k i j).2 ((e k j).1 z)⟩
theorem Cp.u {D : Nat → Int → Prop} {f : Nat → Nat} {m0 m : aM} {a : Nat} {q v : Int} (h : Cp D f m0 m) (hs : ¬ D (f a) q) (hv : v = m (f a) 0 q) : Cp (fun k j => D k j ∨ (k = a ∧ j = q)) f m0 (up m a 0 q v) := fun k i j => by
  refine ⟨fun z => ?_, fun z => ?_⟩
  · rw [up_out (fun y => z ⟨y.2.1, Or.inr ⟨y.1, y.2.2⟩⟩)]
    exact (h k i j).1 (fun y => z ⟨y.1, Or.inl y.2⟩)
  · by_cases e : k = a ∧ j = q
    · obtain ⟨e1, e2⟩ := e
      subst e1; subst e2
      rw [up_same, hv]
      exact (h (f k) 0 j).1 (fun y => hs y.2)
    · rw [up_out (fun y => e ⟨y.1, y.2.2⟩)]
      exact (h k 0 j).2 (by rcases z with z | z; exact z; exact absurd z e)
section
variable {g : aG} {d : Nat} {μ : aM} {Q : aQ} {a b a0 a1 : Int}
theorem c_No_become (hne : a0 ≠ a1) (hm : a0 % 3 = a1 % 3) (hn : 0 ≤ μ 9 a1 1 ∧ μ 9 a1 1 ≤ capN a1) (hc : μ 9 a0 0 = capN a1) (h : ∀ m, Tch (fun k i j => i = a0 ∧ ((k = 9 ∧ j = 1) ∨ (10 ≤ k ∧ k ≤ 12))) μ m → m 9 a0 1 = μ 9 a1 1 → (∀ k j, 10 ≤ k → k ≤ 12 → 0 ≤ j → j < μ 9 a1 1 → m k a0 j = μ k a1 j) → Q none m) : Cal g (d + 1) m_No_become [aR 9 a0, aR 9 a1] μ Q := by
  have e0 : i_min (μ 9 a0 0) (μ 9 a1 1) = μ 9 a1 1 := by unfold i_min; split <;> omega
  have hcap : capN a0 = capN a1 := by unfold capN; rw [hm]
  refine T_No_become (k1 := ?_)
  rw [e0]
  refine loopR (n := μ 9 a1 1) (fun p (m : aM) => Rn g d m_No_become 17 [some (aR 9 a0), some (aR 9 a1), some (aI p)] [] m Q) (fun p m => Tch (fun k i j => i = a0 ∧ ((k = 9 ∧ j = 1) ∨ (10 ≤ k ∧ k ≤ 12))) μ m ∧ m 9 a0 1 = μ 9 a1 1 ∧ (∀ k j, 10 ≤ k → k ≤ 12 → 0 ≤ j → j < p → m k a0 j = μ k a1 j)) ?_ ?_ 0 _ (by omega) hn.1 ⟨Tch.rf.up (by omega), up_same, fun k j _ _ j0 j1 => absurd j1 (by omega)⟩
  · rintro p m p0 p1 ⟨t, h1, h2⟩ ih
    have f1 : ∀ j, m 10 a1 j = μ 10 a1 j := fun j => t 10 a1 j (fun z => hne z.1.symm)
    have f2 : ∀ j, m 11 a1 j = μ 11 a1 j := fun j => t 11 a1 j (fun z => hne z.1.symm)
    have f3 : ∀ j, m 12 a1 j = μ 12 a1 j := fun j => t 12 a1 j (fun z => hne z.1.symm)
    have c0 : 0 ≤ p ∧ p < capN a0 := by omega
    have c1 : 0 ≤ p ∧ p < capN a1 := by omega
    have c2 : capN a1 ≤ 10 := by unfold capN; split; omega; split <;> omega
    refine B_No_become_17 (k1 := fun z => absurd z (by omega)) (b1 := fun _ => c1) (b2 := fun _ => c0) (b3 := fun _ => c1) (b4 := fun _ => c0) (b5 := fun _ => c1) (b6 := fun _ => c0) (b7 := fun _ => by omega) (k2 := fun _ => ih _ ⟨((t.up (by omega)).up (by omega)).up (by omega), by rw [up_other (by decide), up_other (by decide), up_other (by decide)]; exact h1, fun k j k0 k1 j0 j1 => ?_⟩)
    rw [f1, f2, f3]
    by_cases e : j = p
    · subst e
      obtain e | e | e : k = 10 ∨ k = 11 ∨ k = 12 := by omega
      · subst e; rw [up_other (by decide), up_other (by decide), up_same]
      · subst e; rw [up_other (by decide), up_same]
      · subst e; rw [up_same]
    · rw [up_out (by omega), up_out (by omega), up_out (by omega)]
      exact h2 k j k0 k1 j0 (by omega)
  · rintro m ⟨t, h1, h2⟩
    exact B_No_become_17 (k1 := fun z => h m t h1 h2) (b1 := fun z => absurd z (by omega)) (b2 := fun z => absurd z (by omega)) (b3 := fun z => absurd z (by omega)) (b4 := fun z => absurd z (by omega)) (b5 := fun z => absurd z (by omega)) (b6 := fun z => absurd z (by omega)) (b7 := fun z => absurd z (by omega)) (k2 := fun z => absurd z (by omega))
def NotesOk (μ : aM) (a b : Int) : Prop := ∀ t, 0 ≤ t → t ≤ 2 → (0 ≤ μ 9 (3 * b + t) 1 ∧ μ 9 (3 * b + t) 1 ≤ capN t) ∧ μ 9 (3 * a + t) 0 = capN t
theorem capN_3 {t : Int} : capN (3 * b + t) = capN t := by unfold capN; rw [show (3 * b + t) % 3 = t % 3 by omega]
theorem c_Mt_become (hab : a ≠ b) (hN : NotesOk μ a b) (h : ∀ m, Tch (fun k i j => (2 ≤ k ∧ k ≤ 8 ∧ i = a) ∨ (k = 9 ∧ j = 1 ∧ 3 * a ≤ i ∧ i ≤ 3 * a + 2) ∨ (10 ≤ k ∧ k ≤ 12 ∧ 3 * a ≤ i ∧ i ≤ 3 * a + 2) ∨ (k = 1 ∧ i = a ∧ j = 4)) μ m → vC m a = vC μ b → m 1 a 4 = μ 1 b 4 → (∀ t, 0 ≤ t → t ≤ 2 → m 9 (3 * a + t) 1 = μ 9 (3 * b + t) 1 ∧ ∀ k j, 10 ≤ k → k ≤ 12 → 0 ≤ j → j < μ 9 (3 * b + t) 1 → m k (3 * a + t) j = μ k (3 * b + t) j) → Q none m) : Cal g (d + 3) m_Mt_become [aR 1 a, aR 1 b] μ Q := by
  have n0 := hN 0 (by omega) (by omega)
  have n1 := hN 1 (by omega) (by omega)
  have n2 := hN 2 (by omega) (by omega)
  rw [show 3 * b + 0 = 3 * b by omega, show 3 * a + 0 = 3 * a by omega] at n0
  refine T_Mt_become (d := d + 1) (k1 := c_Cr_become (d := d + 1) (Ne.symm hab) (fun m0 hb hv => B_Mt_become_11 (k1 := ?_)))
  have t0 : ∀ k i, k < 2 ∨ 8 < k → m0 k i = μ k i := fun k i hk => hb k i (fun z1 z2 => by omega)
  refine c_No_become (d := d + 1) (by omega) (by omega) (by rw [t0 9 _ (by omega)]; have := n0.1; rw [show capN (3 * b) = capN 0 from by have := capN_3 (b := b) (t := 0); rw [show 3 * b + 0 = 3 * b by omega] at this; exact this]; exact this) (by rw [t0 9 _ (by omega)]; rw [show capN (3 * b) = capN 0 from by have := capN_3 (b := b) (t := 0); rw [show 3 * b + 0 = 3 * b by omega] at this; exact this]; exact n0.2) (fun m1 t1 s1 r1 => B_Mt_become_22 (k1 := ?_))
  have u1 : ∀ k i j, k < 2 ∨ 8 < k → i ≠ 3 * a → m1 k i j = μ k i j := fun k i j hk hi => by rw [t1 k i j (by omega), t0 k i hk]
  have u1' : ∀ i, m1 9 i 0 = μ 9 i 0 := fun i => by rw [t1 9 i 0 (by omega), t0 9 i (by omega)]
  refine c_No_become (d := d + 1) (by omega) (by omega) (by rw [u1 9 _ _ (by omega) (by omega), capN_3]; exact n1.1) (by rw [u1', capN_3]; exact n1.2) (fun m2 t2 s2 r2 => B_Mt_become_33 (k1 := ?_))
  have u2 : ∀ k i j, k < 2 ∨ 8 < k → i ≠ 3 * a → i ≠ 3 * a + 1 → m2 k i j = μ k i j := fun k i j hk hi hi2 => by rw [t2 k i j (by omega), u1 k i j hk hi]
  have u2' : ∀ i, m2 9 i 0 = μ 9 i 0 := fun i => by rw [t2 9 i 0 (by omega), u1']
  refine c_No_become (d := d + 1) (by omega) (by omega) (by rw [u2 9 _ _ (by omega) (by omega) (by omega), capN_3]; exact n2.1) (by rw [u2', capN_3]; exact n2.2) (fun m3 t3 s3 r3 => B_Mt_become_44 (k1 := ?_))
  have e3 : ∀ k, 2 ≤ k → k ≤ 8 → ∀ i, m3 k i = m0 k i := fun k k0 k1 i => funext fun j => by rw [t3 k i j (by omega), t2 k i j (by omega), t1 k i j (by omega)]
  refine h _ (fun k i j hx => ?_) ?_ ?_ (fun t t0' t1' => ?_)
  · rw [up_out (by omega), t3 k i j (by omega), t2 k i j (by omega), t1 k i j (by omega), hb k i (fun z1 z2 => by omega)]
  · rw [vC_k0 (by omega), ← hv]
    unfold vC
    rw [e3 2 (by decide) (by decide), e3 3 (by decide) (by decide), e3 4 (by decide) (by decide), e3 5 (by decide) (by decide), e3 6 (by decide) (by decide), e3 7 (by decide) (by decide), e3 8 (by decide) (by decide)]
  · rw [up_same, t3 1 b 4 (by omega), t2 1 b 4 (by omega), t1 1 b 4 (by omega), t0 1 b (by omega)]
  · obtain e | e | e : t = 0 ∨ t = 1 ∨ t = 2 := by omega
    · subst e
      rw [show 3 * a + 0 = 3 * a by omega, show 3 * b + 0 = 3 * b by omega]
      refine ⟨by rw [up_other (by decide), t3 9 _ 1 (by omega), t2 9 _ 1 (by omega), s1, t0 9 _ (by omega)], fun k j k0 k1 j0 j1 => ?_⟩
      rw [up_out (by omega), t3 k _ j (by omega), t2 k _ j (by omega), r1 k j k0 k1 j0 (by rw [t0 9 _ (by omega)]; exact j1), t0 k _ (by omega)]
    · subst e
      refine ⟨by rw [up_other (by decide), t3 9 _ 1 (by omega), s2, u1 9 _ _ (by omega) (by omega)], fun k j k0 k1 j0 j1 => ?_⟩
      rw [up_out (by omega), t3 k _ j (by omega), r2 k j k0 k1 j0 (by rw [u1 9 _ _ (by omega) (by omega)]; exact j1), u1 k _ _ (by omega) (by omega)]
    · subst e
      refine ⟨by rw [up_other (by decide), s3, u2 9 _ _ (by omega) (by omega) (by omega)], fun k j k0 k1 j0 j1 => ?_⟩
      rw [up_out (by omega), r3 k j k0 k1 j0 (by rw [u2 9 _ _ (by omega) (by omega) (by omega)]; exact j1), u2 k _ _ (by omega) (by omega) (by omega)]
end
