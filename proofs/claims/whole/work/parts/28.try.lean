/-! Trials: a copy of the people on the class's side, what is saved and put back on the reference's. -/
theorem cp_k {μ : aM} {k0 k k' : Nat} {a0 sp a dp n : Int} (h : k' ≠ k) : cp μ k0 a0 sp k a dp n k' = μ k' := by
  funext i j; unfold cp; rw [if_neg (fun z => h z.1)]
theorem cp_inst {μ : aM} {k0 k : Nat} {a0 sp a a' dp n : Int} (h : a' ≠ a) : cp μ k0 a0 sp k a dp n k a' = μ k a' := by
  funext j; unfold cp; rw [if_neg (fun z => h z.2.1)]
theorem cp_in {μ : aM} {k0 k : Nat} {a0 a n j : Int} (h0 : 0 ≤ j) (h : j < n) : cp μ k0 a0 0 k a 0 n k a j = μ k0 a0 j := by
  unfold cp; rw [if_pos ⟨rfl, rfl, h0, by omega⟩, show (0 : Int) + (j - 0) = j by omega]
theorem cp6 {μ : aM} {k0 k : Nat} {a0 a : Int} : t6 (cp μ k0 a0 0 k a 0 6 k a) = t6 (μ k0 a0) := t6_ext fun _ h0 h6 => cp_in h0 h6
theorem cp24 {μ : aM} {k0 k : Nat} {a0 a : Int} : t24 (cp μ k0 a0 0 k a 0 24 k a) = t24 (μ k0 a0) := t24_ext fun _ h0 h6 => cp_in h0 h6
/-- all but the crowd a stands -/
def BFr (a : Int) (μ μ' : aM) : Prop := ∀ k b, (2 ≤ k → k ≤ 8 → b ≠ a) → μ' k b = μ k b
/-- all but the trial and what the mornings note stands -/
def TFr (μ μ' : aM) : Prop := ∀ k b, (2 ≤ k → k ≤ 8 → b ≠ 2) → (k < 21 ∨ 25 < k) → μ' k b = μ k b
theorem TFr.rf {μ : aM} : TFr μ μ := fun _ _ _ _ => rfl
theorem TFr.tr {μ μ₁ μ₂ : aM} (h : TFr μ μ₁) (h2 : TFr μ₁ μ₂) : TFr μ μ₂ := fun k b h3 h4 => (h2 k b h3 h4).trans (h k b h3 h4)
theorem BFr.T {μ μ' : aM} (h : BFr 2 μ μ') : TFr μ μ' := fun k b h3 _ => h k b h3
theorem DFr.T {μ μ' : aM} (h : DFr 2 μ μ') : TFr μ μ' := fun k b h3 h4 => by
  by_cases e : k ∈ [2, 6, 21, 22, 23, 24, 25]
  · simp at e
    rcases e with e | e | e
    · subst e; exact (h.2.1 b (h3 (by omega) (by omega))).2
    · subst e; exact (h.2.1 b (h3 (by omega) (by omega))).1
    · omega
  · rw [h.1 k e]
theorem TFr.k {μ μ' : aM} {k : Nat} (h : TFr μ μ') (h1 : k < 2 ∨ 8 < k := by omega) (h2 : k < 21 ∨ 25 < k := by omega) : μ' k = μ k := funext fun b => h k b (fun z1 z2 => by omega) h2
theorem TFr.c {μ μ' : aM} {a : Int} (h : TFr μ μ') (ha : a ≠ 2 := by decide) : vC μ' a = vC μ a := by
  unfold vC
  rw [h 2 a (fun _ _ => ha) (by omega), h 3 a (fun _ _ => ha) (by omega), h 4 a (fun _ _ => ha) (by omega), h 5 a (fun _ _ => ha) (by omega), h 6 a (fun _ _ => ha) (by omega), h 7 a (fun _ _ => ha) (by omega), h 8 a (fun _ _ => ha) (by omega)]
theorem TFr.u {μ m : aM} {k : Nat} {j x : Int} (h : TFr μ m) (hk : 2 ≤ k ∧ k ≤ 8 := by decide) : TFr μ (up m k 2 j x) := fun k' b h3 h4 => by
  rw [← h k' b h3 h4]
  by_cases e : k' = k
  · subst e; exact up_inst (h3 hk.1 hk.2)
  · rw [up_k e]
theorem TFr.u21 {μ m : aM} {j x : Int} (h : TFr μ m) : TFr μ (up m 21 0 j x) := fun k' b h3 h4 => by
  rw [← h k' b h3 h4, up_k (by omega)]
/-- whose clauses hold for the class -/
def HC (μ : aM) (T : TDt) : Prop := ((μ 1 0 4 < 0 ∨ μ 0 0 5 ≤ μ 1 0 4) ∧ CTn μ 6 T) ∨ ((0 ≤ μ 1 0 4 ∧ μ 1 0 4 < μ 0 0 5) ∧ μ 0 0 5 ≤ 6 ∧ CTn μ (μ 1 0 4) T)
def CC (μ : aM) (V : Vw) (T : TDt) : Prop := vC μ 0 = V ∧ VOk 9999 V ∧ TDok T ∧ HC μ T
theorem HC.moved {μ μ' : aM} {T : TDt} (h0 : μ' 0 = μ 0) (h1 : μ' 1 = μ 1) (h : ∀ k, 14 ≤ k → k ≤ 18 → μ' k = μ k) (hc : HC μ T) : HC μ' T := by
  unfold HC at hc ⊢
  rw [h0, h1]
  rcases hc with ⟨h2, h3⟩ | ⟨h2, h3, h4⟩
  · exact Or.inl ⟨h2, h3.moved h⟩
  · exact Or.inr ⟨h2, h3, h4.moved h⟩
theorem CC.t {μ μ' : aM} {V : Vw} {T : TDt} (hf : TFr μ μ') (h : CC μ V T) : CC μ' V T :=
  ⟨hf.c.trans h.1, h.2.1, h.2.2.1, h.2.2.2.moved hf.k hf.k (fun k k1 k2 => hf.k)⟩
section
variable {g : aG} {d : Nat} {μ : aM} {Q : aQ} {p B a b n pp : Int} {T : TDt} {V : Vw}
theorem c_P_holder (hC : CC μ V T) (h : ∀ t, CTn μ t T → Q (some (aR 14 t)) μ) : Cal g (d + 1) m_P_holder [aR 0 0] μ Q := by
  rcases hC.2.2.2 with ⟨h1, h2⟩ | ⟨h1, h2, h3⟩
  · exact T_P_holder (k1 := fun _ => h 6 h2) (k2 := fun _ _ => h 6 h2) (k3 := fun z1 z2 => absurd h1 (by omega))
  · exact T_P_holder (k1 := fun z => absurd z (by omega)) (k2 := fun _ z => absurd z (by omega)) (k3 := fun z1 z2 => h _ h3)
theorem c_Cr_become (hab : b ≠ a) (h : ∀ μ', BFr a μ μ' → vC μ' a = vC μ b → Q none μ') : Cal g (d + 1) m_Cr_become [aR 2 a, aR 2 b] μ Q := by
  refine T_Cr_become (k1 := h _ (fun k c hc => ?_) ?_)
  · by_cases e8 : k = 8
    · subst e8
      rw [cp_inst (hc (by omega) (by omega)), cp_k (by decide), cp_k (by decide), cp_k (by decide), cp_k (by decide), cp_k (by decide), up_k (by decide), up_k (by decide)]
    · rw [cp_k e8]
      by_cases e7 : k = 7
      · subst e7
        rw [cp_inst (hc (by omega) (by omega)), cp_k (by decide), cp_k (by decide), cp_k (by decide), cp_k (by decide), up_k (by decide), up_k (by decide)]
      · rw [cp_k e7]
        by_cases e6 : k = 6
        · subst e6
          rw [cp_inst (hc (by omega) (by omega)), cp_k (by decide), cp_k (by decide), cp_k (by decide), up_k (by decide), up_k (by decide)]
        · rw [cp_k e6]
          by_cases e5 : k = 5
          · subst e5
            rw [cp_inst (hc (by omega) (by omega)), cp_k (by decide), cp_k (by decide), up_k (by decide), up_k (by decide)]
          · rw [cp_k e5]
            by_cases e4 : k = 4
            · subst e4
              rw [cp_inst (hc (by omega) (by omega)), cp_k (by decide), up_k (by decide), up_k (by decide)]
            · rw [cp_k e4]
              by_cases e3 : k = 3
              · subst e3
                rw [cp_inst (hc (by omega) (by omega)), up_k (by decide), up_k (by decide)]
              · rw [cp_k e3]
                by_cases e2 : k = 2
                · subst e2
                  rw [up_inst (hc (by omega) (by omega)), up_inst (hc (by omega) (by omega))]
                · rw [up_k e2, up_k e2]
  · unfold vC
    rw [cp24, cp_k (k' := 7) (by decide), cp_k (k' := 6) (by decide), cp_k (k' := 5) (by decide), cp_k (k' := 4) (by decide), cp_k (k' := 3) (by decide), cp_k (k' := 2) (by decide)]
    rw [cp6, cp_k (k' := 6) (by decide), cp_k (k' := 5) (by decide), cp_k (k' := 4) (by decide), cp_k (k' := 3) (by decide), cp_k (k' := 2) (by decide)]
    rw [cp6, cp_k (k' := 5) (by decide), cp_k (k' := 4) (by decide), cp_k (k' := 3) (by decide), cp_k (k' := 2) (by decide)]
    rw [cp6, cp_k (k' := 4) (by decide), cp_k (k' := 3) (by decide), cp_k (k' := 2) (by decide)]
    rw [cp6, cp_k (k' := 3) (by decide), cp_k (k' := 2) (by decide)]
    rw [cp6, cp_k (k' := 2) (by decide)]
    simp only [cp_k (show (8 : Nat) ≠ 7 by decide), cp_k (show (8 : Nat) ≠ 6 by decide), cp_k (show (8 : Nat) ≠ 5 by decide), cp_k (show (8 : Nat) ≠ 4 by decide), cp_k (show (8 : Nat) ≠ 3 by decide), cp_k (show (7 : Nat) ≠ 6 by decide), cp_k (show (7 : Nat) ≠ 5 by decide), cp_k (show (7 : Nat) ≠ 4 by decide), cp_k (show (7 : Nat) ≠ 3 by decide), cp_k (show (6 : Nat) ≠ 5 by decide), cp_k (show (6 : Nat) ≠ 4 by decide), cp_k (show (6 : Nat) ≠ 3 by decide), cp_k (show (5 : Nat) ≠ 4 by decide), cp_k (show (5 : Nat) ≠ 3 by decide), cp_k (show (4 : Nat) ≠ 3 by decide), up_k (show (8 : Nat) ≠ 2 by decide), up_k (show (7 : Nat) ≠ 2 by decide), up_k (show (6 : Nat) ≠ 2 by decide), up_k (show (5 : Nat) ≠ 2 by decide), up_k (show (4 : Nat) ≠ 2 by decide), up_k (show (3 : Nat) ≠ 2 by decide), up_same, up_ne (show (0 : Int) ≠ 1 by decide)]
theorem c_become (h : ∀ μ', TFr μ μ' → μ' 21 = μ 21 → vC μ' 2 = vC μ 0 → Q none μ') : Cal g (d + 1) m_Cr_become [aR 2 2, aR 2 0] μ Q :=
  c_Cr_become (by decide) (fun μ' hf hv => h μ' hf.T (funext fun c => hf 21 c (fun _ z => absurd z (by decide))) hv)
theorem c_P_tryDays (hC : CC μ V T) (hn : 0 ≤ n ∧ n ≤ 60) (hpp : μ 21 0 5 = pp) (h : ∀ μ', TFr μ μ' → μ' 21 0 5 = pp → vC μ' 2 = daysV T pp V n → Q none μ') : Cal g (d + 6) m_P_tryDays [aR 0 0, aI n] μ Q := by
  refine T_P_tryDays (k1 := Cal_le (show 1 ≤ d + 5 by omega) (c_become (d := 0) (fun m1 hf1 h21 hv1 => ?_)))
  have hC1 := hC.t hf1
  refine B_P_tryDays_14 (k1 := Cal_le (show 1 ≤ d + 5 by omega) (c_P_holder (d := 0) hC1 (fun t hT => ?_)))
  refine B_P_tryDays_18 (k1 := ?_)
  refine loopR (n := n) (fun p (m : aM) => Rn g (d + 5) m_P_tryDays 21 [some (aR 0 0), some (aI n), some (aR 14 t), some (aI p)] [] m Q) (fun p m => (TFr μ m ∧ m 21 0 5 = pp) ∧ CTn m t T ∧ vC m 2 = daysV T pp V p) ?_ ?_ 0 m1 (by omega) hn.1 ⟨⟨hf1, by rw [h21]; exact hpp⟩, hT, hv1.trans hC.1⟩
  · rintro p m h0 hp ⟨⟨hf, h5⟩, hT, hm⟩ ih
    refine B_P_tryDays_21 (k1 := fun z => absurd z (by omega)) (k2 := fun _ => ?_)
    refine c_Mo_goDay (B := 9999 + p) hT hC.2.2.1 hm (daysV_ok hC.2.1 p h0) (by omega) h5 (fun m' hf' hm' _ => ?_)
    refine B_P_tryDays_38 (k1 := ih m' ⟨⟨hf.tr hf'.T, hf'.2.2.trans h5⟩, hT.moved (fun k k1 k2 => hf'.T.k), ?_⟩)
    rw [hm', daysV_s h0]
  · rintro m ⟨⟨hf, h5⟩, hT, hm⟩
    exact B_P_tryDays_21 (k1 := fun _ => h m hf h5 hm) (k2 := fun z => absurd z (by omega))
end
