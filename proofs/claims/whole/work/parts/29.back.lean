/-! What the reference saves and puts back. -/
def putO (V : Vw) (p x : Int) : Vw := setO V (t6 (pu (vo V) p x))
def putU (V : Vw) (p x : Int) : Vw := setU V (t6 (pu (vu V) p x))
def putA (V : Vw) (p x : Int) : Vw := setA V (t6 (pu (va V) p x))
def putN (V : Vw) (p x : Int) : Vw := setN V (t6 (pu (vv V) p x))
theorem vC_putO {μ : aM} {a p x : Int} : vC (up μ 6 a p x) a = putO (vC μ a) p x := vC_setO.trans (congrArg (setO _) (t6_pu t6_t6.symm))
theorem vM_putO {μ : aM} {p x : Int} : vM (up μ 35 0 p x) = putO (vM μ) p x := vM_setO.trans (congrArg (setO _) (t6_pu t6_t6.symm))
theorem vC_putU {μ : aM} {a p x : Int} : vC (up μ 5 a p x) a = putU (vC μ a) p x := by
  have e : vC (up μ 5 a p x) a = setU (vC μ a) (t6 (pu (μ 5 a) p x)) := by
    unfold vC setU
    rw [up_k (by decide), up_k (by decide), up_k (by decide), up_row, up_k (by decide), up_k (by decide), up_k (by decide)]
  exact e.trans (congrArg (setU _) (t6_pu t6_t6.symm))
theorem vM_putU {μ : aM} {p x : Int} : vM (up μ 34 0 p x) = putU (vM μ) p x := by
  have e : vM (up μ 34 0 p x) = setU (vM μ) (t6 (pu (μ 34 0) p x)) := by
    unfold vM setU
    rw [up_k (by decide), up_k (by decide), up_k (by decide), up_row, up_k (by decide), up_k (by decide)]
  exact e.trans (congrArg (setU _) (t6_pu t6_t6.symm))
theorem vC_putN {μ : aM} {a p x : Int} : vC (up μ 4 a p x) a = putN (vC μ a) p x := by
  have e : vC (up μ 4 a p x) a = setN (vC μ a) (t6 (pu (μ 4 a) p x)) := by
    unfold vC setN
    rw [up_k (by decide), up_k (by decide), up_row, up_k (by decide), up_k (by decide), up_k (by decide), up_k (by decide)]
  exact e.trans (congrArg (setN _) (t6_pu t6_t6.symm))
theorem vM_putN {μ : aM} {p x : Int} : vM (up μ 33 0 p x) = putN (vM μ) p x := by
  have e : vM (up μ 33 0 p x) = setN (vM μ) (t6 (pu (μ 33 0) p x)) := by
    unfold vM setN
    rw [up_k (by decide), up_k (by decide), up_row, up_k (by decide), up_k (by decide), up_k (by decide)]
  exact e.trans (congrArg (setN _) (t6_pu t6_t6.symm))
theorem vC_putA {μ : aM} {a p x : Int} : vC (up μ 7 a p x) a = putA (vC μ a) p x := by
  have e : vC (up μ 7 a p x) a = setA (vC μ a) (t6 (pu (μ 7 a) p x)) := by
    unfold vC setA
    rw [up_k (by decide), up_k (by decide), up_k (by decide), up_k (by decide), up_k (by decide), up_row, up_k (by decide)]
  exact e.trans (congrArg (setA _) (t6_pu t6_t6.symm))
theorem pu_rng {f : Int → Int} {p x i lo hi : Int} (hf : lo ≤ f i ∧ f i ≤ hi) (hx : lo ≤ x ∧ x ≤ hi) : lo ≤ pu f p x i ∧ pu f p x i ≤ hi := by
  unfold pu; split
  · exact hx
  · exact hf
theorem putO_ok {B p x : Int} {V : Vw} (hV : VOk B V) (hx : -999 ≤ x ∧ x ≤ 999) : VOk B (putO V p x) := vok_setO hV (fun i h0 h6 => pu_rng (vok_oOk hV i h0 h6) hx)
theorem putU_ok {B p x : Int} {V : Vw} (hV : VOk B V) (hx : 0 ≤ x ∧ x ≤ 99) : VOk B (putU V p x) := by
  obtain ⟨h1, h2, h3⟩ := hV
  refine ⟨h1, h2, fun i i0 i6 => ?_⟩
  obtain ⟨a1, a2, a3, a4, a5, a6⟩ := h3 i i0 i6
  refine ⟨a1, a2, ?_, a4, a5, a6⟩
  have e : vu (putU V p x) i = pu (vu V) p x i := t6_in i0 i6
  rw [e]; exact pu_rng a3 hx
theorem putN_ok {B p x : Int} {V : Vw} (hV : VOk B V) (hx : 0 ≤ x ∧ x ≤ 9) : VOk B (putN V p x) := by
  obtain ⟨h1, h2, h3⟩ := hV
  refine ⟨h1, h2, fun i i0 i6 => ?_⟩
  obtain ⟨a1, a2, a3, a4, a5, a6⟩ := h3 i i0 i6
  refine ⟨a1, ?_, a3, a4, a5, a6⟩
  have e : vv (putN V p x) i = pu (vv V) p x i := t6_in i0 i6
  rw [e]; exact pu_rng a2 hx
theorem putA_ok {B p x : Int} {V : Vw} (hV : VOk B V) (hx : x = 0 ∨ x = 1) : VOk B (putA V p x) := by
  obtain ⟨h1, h2, h3⟩ := hV
  refine ⟨h1, h2, fun i i0 i6 => ?_⟩
  obtain ⟨a1, a2, a3, a4, a5, a6⟩ := h3 i i0 i6
  refine ⟨a1, a2, a3, a4, ?_, a6⟩
  have e : va (putA V p x) i = pu (va V) p x i := t6_in i0 i6
  rw [e]; unfold pu; split
  · exact hx
  · exact a5
/-- what a trial of the reference may change -/
def XFr (μ m : aM) : Prop := Fr [31, 34, 35, 46, 47, 48, 49, 50, 51] μ m ∧ ∀ j, j ≠ 1 → j ≠ 2 → j ≠ 25 → j ≠ 27 → j ≠ 31 → j ≠ 32 → m 31 0 j = μ 31 0 j
def Saved (μ m : aM) : Prop := m 31 0 31 = μ 31 0 1 ∧ m 31 0 32 = μ 31 0 2 ∧ t6 (m 50 0) = t6 (μ 34 0) ∧ t6 (m 51 0) = t6 (μ 35 0)
def Trl (μ m : aM) : Prop := XFr μ m ∧ Saved μ m
def KFr (μ m : aM) : Prop := XFr μ m ∧ vM m = vM μ ∧ m 31 0 2 = μ 31 0 2 ∧ m 31 0 25 = -1
theorem XFr.rf {μ : aM} : XFr μ μ := ⟨Fr.rf, fun _ _ _ _ _ _ _ => rfl⟩
theorem XFr.tr {μ μ₁ μ₂ : aM} (h : XFr μ μ₁) (h2 : XFr μ₁ μ₂) : XFr μ μ₂ := ⟨h.1.tr h2.1, fun j a b c d e f => (h2.2 j a b c d e f).trans (h.2 j a b c d e f)⟩
theorem MFr.X {μ m : aM} (h : MFr μ m) : XFr μ m := ⟨h.1.le, fun j a b c d e f => h.2 j d a⟩
theorem XFr.u {μ m : aM} {k : Nat} {i j x : Int} (h : XFr μ m) (h31 : k ≠ 31 := by decide) (hk : k ∈ [31, 34, 35, 46, 47, 48, 49, 50, 51] := by decide) : XFr μ (up m k i j x) := ⟨h.1.up hk, fun j' a b c d e f => (up_other (Ne.symm h31)).trans (h.2 j' a b c d e f)⟩
theorem XFr.u31 {μ m : aM} {j x : Int} (h : XFr μ m) (hj : j = 1 ∨ j = 2 ∨ j = 25 ∨ j = 27 ∨ j = 31 ∨ j = 32 := by decide) : XFr μ (up m 31 0 j x) := ⟨h.1.up, fun j' a b c d e f => (up_ne (by omega)).trans (h.2 j' a b c d e f)⟩
theorem Trl.m {μ m m' : aM} (h : Trl μ m) (hm : MFr m m') : Trl μ m' := ⟨h.1.tr hm.X, (hm.2 31 (by decide) (by decide)).trans h.2.1, (hm.2 32 (by decide) (by decide)).trans h.2.2.1, by rw [hm.1 50 (by decide)]; exact h.2.2.2.1, by rw [hm.1 51 (by decide)]; exact h.2.2.2.2⟩
theorem Trl.u {μ m : aM} {k : Nat} {i j x : Int} (h : Trl μ m) (hk : k = 34 ∨ k = 35 := by decide) : Trl μ (up m k i j x) := ⟨h.1.u (by omega) (by rcases hk with e | e <;> subst e <;> decide), by rw [up_other (by omega)]; exact h.2.1, by rw [up_other (by omega)]; exact h.2.2.1, by rw [up_k (by omega)]; exact h.2.2.2.1, by rw [up_k (by omega)]; exact h.2.2.2.2⟩
theorem Trl.u31 {μ m : aM} {j x : Int} (h : Trl μ m) (hj : j = 2 ∨ j = 25 := by decide) : Trl μ (up m 31 0 j x) := ⟨h.1.u31 (by omega), by rw [up_ne (by omega)]; exact h.2.1, by rw [up_ne (by omega)]; exact h.2.2.1, by rw [up_k (by decide)]; exact h.2.2.2.1, by rw [up_k (by decide)]; exact h.2.2.2.2⟩
theorem MHn.x {μ μ' : aM} {T : TDt} (hs : XFr μ μ') (h : MHn μ T) : MHn μ' T := by
  unfold MHn at h ⊢
  rw [hs.2 9 (by decide) (by decide) (by decide) (by decide) (by decide) (by decide)]
  rcases h with h | ⟨h, h2⟩
  · exact Or.inl h
  · exact Or.inr ⟨h, h2.moved (hs.1 38 (by decide)) (hs.1 39 (by decide)) (hs.1 40 (by decide)) (hs.1 41 (by decide)) (hs.1 42 (by decide)) (hs.1 43 (by decide))⟩
def CM (μ : aM) (V : Vw) (T : TDt) : Prop := vM μ = V ∧ VOk 9999 V ∧ TDok T ∧ MHn μ T ∧ μ 31 0 25 = -1
theorem CM.k {μ μ' : aM} {V : Vw} {T : TDt} (hf : KFr μ μ') (h : CM μ V T) : CM μ' V T := ⟨hf.2.1.trans h.1, h.2.1, h.2.2.1, h.2.2.2.1.x hf.1, hf.2.2.2⟩
theorem KFr.tr {μ μ₁ μ₂ : aM} (h : KFr μ μ₁) (h2 : KFr μ₁ μ₂) : KFr μ μ₂ := ⟨h.1.tr h2.1, h2.2.1.trans h.2.1, h2.2.2.1.trans h.2.2.1, h2.2.2.2⟩
theorem KFr.rf {μ : aM} (h : μ 31 0 25 = -1) : KFr μ μ := ⟨XFr.rf, rfl, rfl, h⟩
theorem S46.K {μ μ' : aM} (hs : S46 μ μ') (h : μ 31 0 25 = -1) : KFr μ μ' := ⟨hs.M.X, hs.vM, by rw [hs 31 (by decide)], by rw [hs 31 (by decide)]; exact h⟩
section
variable {g : aG} {d : Nat} {μ m0 : aM} {Q : aQ} {p B a b n pp : Int} {T : TDt} {V : Vw}
theorem c_M_save (h : ∀ m, Trl μ m → vM m = vM μ → m 31 0 2 = μ 31 0 2 → m 31 0 25 = μ 31 0 25 → Q none m) : Cal g (d + 1) m_M_save [aR 31 0] μ Q := by
  refine T_M_save (k1 := loopR (n := 6) (fun p (m : aM) => Rn g d m_M_save 18 [some (aR 31 0), some (aI p)] [] m Q) (fun p m => (Fr [31, 50, 51] μ m ∧ (∀ j, j ≠ 31 → j ≠ 32 → m 31 0 j = μ 31 0 j) ∧ m 31 0 31 = μ 31 0 1 ∧ m 31 0 32 = μ 31 0 2) ∧ ∀ q, 0 ≤ q → q < p → m 50 0 q = μ 34 0 q ∧ m 51 0 q = μ 35 0 q) ?_ ?_ 0 _ (by omega) (by omega) ⟨⟨Fr.rf.up.up, fun j h1 h2 => (up_ne h2).trans (up_ne h1), ?_, ?_⟩, fun q h0 h1 => absurd h1 (by omega)⟩)
  · rintro p m h0 hp ⟨⟨hf, hj, h31, h32⟩, hq⟩ ih
    refine B_M_save_18 (k1 := fun z => absurd z (by omega)) (k2 := fun _ => ih _ ⟨⟨hf.up.up, fun j h1 h2 => by rw [up_k (by decide), up_k (by decide)]; exact hj j h1 h2, by rw [up_k (by decide), up_k (by decide)]; exact h31, by rw [up_k (by decide), up_k (by decide)]; exact h32⟩, fun q q0 q1 => ?_⟩)
    by_cases e : q = p
    · subst e
      rw [up_other (by decide), up_same, up_same, hf 34 (by decide), hf 35 (by decide)]; exact ⟨rfl, rfl⟩
    · rw [up_other (by decide), up_ne e, up_ne e, up_other (by decide)]; exact hq q q0 (by omega)
  · rintro m ⟨⟨hf, hj, h31, h32⟩, hq⟩
    refine B_M_save_18 (k1 := fun _ => h m ⟨⟨hf.le, fun j _ _ _ _ h1 h2 => hj j h1 h2⟩, h31, h32, t6_ext fun i h0 h6 => (hq i h0 h6).1, t6_ext fun i h0 h6 => (hq i h0 h6).2⟩ ?_ (hj 2 (by decide) (by decide)) (hj 25 (by decide) (by decide))) (k2 := fun z => absurd z (by omega))
    unfold vM
    rw [hj 0 (by decide) (by decide), hj 1 (by decide) (by decide), hj 2 (by decide) (by decide), hf 32 (by decide), hf 33 (by decide), hf 34 (by decide), hf 35 (by decide), hf 36 (by decide)]
  · rw [up_ne (by decide), up_same]
  · rw [up_same]
theorem c_M_putBack (hT : Trl μ m0) (h : ∀ m, KFr μ m → Q none m) : Cal g (d + 1) m_M_putBack [aR 31 0] m0 Q := by
  refine T_M_putBack (k1 := loopR (n := 6) (fun p (m : aM) => Rn g d m_M_putBack 23 [some (aR 31 0), some (aI p)] [] m Q) (fun p m => (XFr μ m ∧ m 31 0 1 = μ 31 0 1 ∧ m 31 0 2 = μ 31 0 2 ∧ m 31 0 25 = -1 ∧ t6 (m 50 0) = t6 (μ 34 0) ∧ t6 (m 51 0) = t6 (μ 35 0)) ∧ ∀ q, 0 ≤ q → q < p → m 34 0 q = μ 34 0 q ∧ m 35 0 q = μ 35 0 q) ?_ ?_ 0 _ (by omega) (by omega) ⟨⟨hT.1.u31.u31.u31, ?_, ?_, ?_, ?_, ?_⟩, fun q h0 h1 => absurd h1 (by omega)⟩)
  · rintro p m h0 hp ⟨⟨hf, h1, h2, h25, h50, h51⟩, hq⟩ ih
    refine B_M_putBack_23 (k1 := fun z => absurd z (by omega)) (k2 := fun _ => ih _ ⟨⟨hf.u.u, by rw [up_k (by decide), up_k (by decide)]; exact h1, by rw [up_k (by decide), up_k (by decide)]; exact h2, by rw [up_k (by decide), up_k (by decide)]; exact h25, by rw [up_k (by decide), up_k (by decide)]; exact h50, by rw [up_k (by decide), up_k (by decide)]; exact h51⟩, fun q q0 q1 => ?_⟩)
    by_cases e : q = p
    · subst e
      rw [up_other (by decide), up_same, up_same]; exact ⟨t6_at h50 h0 hp, t6_at h51 h0 hp⟩
    · rw [up_other (by decide), up_ne e, up_ne e, up_other (by decide)]; exact hq q q0 (by omega)
  · rintro m ⟨⟨hf, h1, h2, h25, h50, h51⟩, hq⟩
    refine B_M_putBack_23 (k1 := fun _ => h m ⟨hf, ?_, h2, h25⟩) (k2 := fun z => absurd z (by omega))
    unfold vM
    rw [hf.2 0 (by decide) (by decide) (by decide) (by decide) (by decide) (by decide), h1, h2, hf.1 32 (by decide), hf.1 33 (by decide), hf.1 36 (by decide), t6_ext (f := m 34 0) (fun i h0 h6 => (hq i h0 h6).1), t6_ext (f := m 35 0) (fun i h0 h6 => (hq i h0 h6).2)]
  · rw [up_ne (by decide), up_same]; exact hT.2.1
  · rw [up_same]; exact hT.2.2.1
  · rw [up_ne (by decide), up_ne (by decide), up_same]
  · rw [up_k (by decide), up_k (by decide), up_k (by decide)]; exact hT.2.2.2.1
  · rw [up_k (by decide), up_k (by decide), up_k (by decide)]; exact hT.2.2.2.2
end
