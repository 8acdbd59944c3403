/-! Runs of a method: some steps, to the end, calls to a depth. -/
def wpK (g : aG) (C : aCal) (m : Nat) : Nat → Nat → aLs → List aV → aM → aK → aQ → Prop
  | 0, pc, ls, st, μ, K, _ => K pc ls st μ
  | n + 1, pc, ls, st, μ, K, R => match lkp pc (codeOf m) with
    | some (i, len, r) => wp1 g C (rtOf m) i len r pc ls st μ (fun a b c d => wpK g C m n a b c d K R) R
    | none => False
def RnC (g : aG) (C : aCal) (m pc : Nat) (ls : aLs) (st : List aV) (μ : aM) (Q : aQ) : Prop := ∃ n, wpK g C m n pc ls st μ (fun _ _ _ _ => False) Q
def slen : List aV → Nat
  | [] => 0
  | Sum.inr (Sum.inl _) :: l => slen l + 2
  | _ :: l => slen l + 1
def Cal (g : aG) : Nat → aCal
  | 0, _, _, _, _ => False
  | d + 1, mid, as, μ, Q => slen as ≤ mlOf mid ∧ RnC g (Cal g d) mid 0 (ent (mlOf mid) as) [] μ Q
abbrev Rn (g : aG) (d m pc : Nat) (ls : aLs) (st : List aV) (μ : aM) (Q : aQ) : Prop := RnC g (Cal g d) m pc ls st μ Q
theorem wpK_one {g : aG} {C : aCal} (hC : Cone C) {m : Nat} : ∀ (n pc : Nat) (ls : aLs) (st : List aV) (μ : aM), One (fun K R => wpK g C m n pc ls st μ K R) := by
  intro n
  induction n with
  | zero => intro pc ls st μ; exact one_K
  | succ n ih =>
    intro pc ls st μ K R h
    simp only [wpK] at h ⊢
    split at h
    · rename_i i len r e
      rcases wp1_one hC _ _ h with ⟨a, b, c, d, h1, h2⟩ | ⟨rv, μ', h1, h2⟩
      · rcases ih a b c d K R h1 with ⟨a', b', c', d', g1, g2⟩ | ⟨rv, μ', g1, g2⟩
        · exact Or.inl ⟨a', b', c', d', g1, fun K2 R2 z => h2 _ _ (g2 K2 R2 z)⟩
        · exact Or.inr ⟨rv, μ', g1, fun K2 R2 z => h2 _ _ (g2 K2 R2 z)⟩
      · exact Or.inr ⟨rv, μ', h1, fun K2 R2 z => h2 _ _ z⟩
    · exact h.elim
theorem wpK_mono {g : aG} {C : aCal} (hC : Cone C) {m n pc : Nat} {ls : aLs} {st : List aV} {μ : aM} {K K2 : aK} {R R2 : aQ} (h : wpK g C m n pc ls st μ K R) (hK : ∀ a b c d, K a b c d → K2 a b c d) (hR : ∀ rv μ', R rv μ' → R2 rv μ') : wpK g C m n pc ls st μ K2 R2 := by
  rcases wpK_one hC _ _ _ _ _ K R h with ⟨a, b, c, d, h1, h2⟩ | ⟨rv, μ', h1, h2⟩
  · exact h2 _ _ (hK _ _ _ _ h1)
  · exact h2 _ _ (hR _ _ h1)
theorem wpK_add {g : aG} {C : aCal} (hC : Cone C) {m : Nat} {n2 : Nat} {K : aK} {R : aQ} : ∀ (n pc : Nat) (ls : aLs) (st : List aV) (μ : aM), wpK g C m n pc ls st μ (fun a b c d => wpK g C m n2 a b c d K R) R → wpK g C m (n + n2) pc ls st μ K R := by
  intro n
  induction n with
  | zero => intro pc ls st μ h; rw [Nat.zero_add]; exact h
  | succ n ih =>
    intro pc ls st μ h
    rw [Nat.succ_add]
    simp only [wpK] at h ⊢
    split at h
    · rename_i i len r e
      exact wp1_mono hC h (fun a b c d z => ih a b c d z) (fun _ _ z => z)
    · exact h.elim
theorem RnC_one {g : aG} {C : aCal} (hC : Cone C) {m pc : Nat} {ls : aLs} {st : List aV} {μ : aM} {Q : aQ} (h : RnC g C m pc ls st μ Q) : ∃ rv μ', Q rv μ' ∧ ∀ Q2 : aQ, Q2 rv μ' → RnC g C m pc ls st μ Q2 := by
  obtain ⟨n, h⟩ := h
  rcases wpK_one hC _ _ _ _ _ _ _ h with ⟨a, b, c, d, h1, h2⟩ | ⟨rv, μ', h1, h2⟩
  · exact h1.elim
  · exact ⟨rv, μ', h1, fun Q2 z => ⟨n, h2 _ _ z⟩⟩
theorem cone_cal (g : aG) : ∀ d, Cone (Cal g d) := by
  intro d
  induction d with
  | zero => intro mid as μ Q h; exact h.elim
  | succ d ih =>
    intro mid as μ Q h
    obtain ⟨rv, μ', h1, h2⟩ := RnC_one ih h.2
    exact ⟨rv, μ', h1, fun Q2 z => ⟨h.1, h2 Q2 z⟩⟩
theorem Cal_mono {g : aG} {d mid : Nat} {as : List aV} {μ : aM} {Q Q2 : aQ} (h : Cal g d mid as μ Q) (hQ : ∀ rv μ', Q rv μ' → Q2 rv μ') : Cal g d mid as μ Q2 := by
  obtain ⟨rv, μ', h1, h2⟩ := cone_cal g d _ _ _ _ h
  exact h2 _ (hQ _ _ h1)
theorem Rn_mono {g : aG} {d m pc : Nat} {ls : aLs} {st : List aV} {μ : aM} {Q Q2 : aQ} (h : Rn g d m pc ls st μ Q) (hQ : ∀ rv μ', Q rv μ' → Q2 rv μ') : Rn g d m pc ls st μ Q2 := by
  obtain ⟨rv, μ', h1, h2⟩ := RnC_one (cone_cal g d) h
  exact h2 _ (hQ _ _ h1)
theorem RnC_blk {g : aG} {C : aCal} (hC : Cone C) {m pc : Nat} {ls : aLs} {st : List aV} {μ : aM} {Q : aQ} (n : Nat) (h : wpK g C m n pc ls st μ (fun a b c d => RnC g C m a b c d Q) Q) : RnC g C m pc ls st μ Q := by
  rcases wpK_one hC _ _ _ _ _ _ _ h with ⟨a, b, c, d, ⟨n2, h1⟩, h2⟩ | ⟨rv, μ', h1, h2⟩
  · exact ⟨n + n2, wpK_add hC n pc ls st μ (h2 (fun a b c d => wpK g C m n2 a b c d (fun _ _ _ _ => False) Q) Q h1)⟩
  · exact ⟨n, h2 _ _ h1⟩
theorem R_blk {g : aG} {d m pc : Nat} {ls : aLs} {st : List aV} {μ : aM} {Q : aQ} (n : Nat) (h : wpK g (Cal g d) m n pc ls st μ (fun a b c e => Rn g d m a b c e Q) Q) : Rn g d m pc ls st μ Q := RnC_blk (cone_cal g d) n h
theorem C_ent {g : aG} {d m : Nat} {as : List aV} {μ : aM} {Q : aQ} {d' : Nat} (hd : d = d' + 1) (hs : slen as ≤ mlOf m) (h : Rn g d' m 0 (ent (mlOf m) as) [] μ Q) : Cal g d m as μ Q := by
  subst hd; exact ⟨hs, h⟩
set_option maxHeartbeats 1000000 in
theorem wp1_monoC {g : aG} {C C2 : aCal} (hCC : ∀ mid as μ Q, C mid as μ Q → C2 mid as μ Q) {rt : Nat} {i : Instr} {n : Nat} {r : aRs} {pc : Nat} {ls : aLs} {st : List aV} {μ : aM} {K : aK} {R : aQ} (h : wp1 g C rt i n r pc ls st μ K R) : wp1 g C2 rt i n r pc ls st μ K R := by
  cases i
  case invokevirtual =>
    simp only [wp1] at h ⊢
    split at h
    · rename_i k a as t e
      cases hb : kcls k == some r.2.2.2.toNat
      · rw [hb] at h; exact h.elim
      · rw [hb] at h; exact ⟨h.1, hCC _ _ _ _ h.2⟩
    · exact h.elim
  case invokestatic =>
    simp only [wp1] at h ⊢
    cases hb : Nat.blt r.1 1000
    · rw [hb] at h; exact h
    · rw [hb] at h
      simp only [cond_true] at h ⊢
      split at h
      · exact ⟨h.1, hCC _ _ _ _ h.2⟩
      · exact h.elim
  all_goals exact h
theorem wpK_monoC {g : aG} {C C2 : aCal} (hC : Cone C2) (hCC : ∀ mid as μ Q, C mid as μ Q → C2 mid as μ Q) {m : Nat} {K : aK} {R : aQ} : ∀ (n pc : Nat) (ls : aLs) (st : List aV) (μ : aM), wpK g C m n pc ls st μ K R → wpK g C2 m n pc ls st μ K R := by
  intro n
  induction n with
  | zero => intro pc ls st μ h; exact h
  | succ n ih =>
    intro pc ls st μ h
    simp only [wpK] at h ⊢
    split at h
    · rename_i i len r e
      exact wp1_mono hC (wp1_monoC hCC h) (fun a b c d z => ih a b c d z) (fun _ _ z => z)
    · exact h.elim
theorem Cal_succ {g : aG} : ∀ (d mid : Nat) (as : List aV) (μ : aM) (Q : aQ), Cal g d mid as μ Q → Cal g (d + 1) mid as μ Q := by
  intro d
  induction d with
  | zero => intro mid as μ Q h; exact h.elim
  | succ d ih =>
    intro mid as μ Q h
    obtain ⟨hs, n, h⟩ := h
    exact ⟨hs, n, wpK_monoC (cone_cal g (d + 1)) ih n _ _ _ _ h⟩
theorem Cal_le {g : aG} {d d' mid : Nat} {as : List aV} {μ : aM} {Q : aQ} (hd : d ≤ d') (h : Cal g d mid as μ Q) : Cal g d' mid as μ Q := by
  obtain ⟨k, rfl⟩ := Nat.exists_eq_add_of_le hd
  induction k with
  | zero => exact h
  | succ k ih => exact Cal_succ _ _ _ _ _ (ih (Nat.le_add_right _ _))
