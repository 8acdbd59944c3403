/-! pass, and the questions that stand by themselves. -/
section
variable {g : aG} {d : Nat} {μ : aM} {Q : aQ} {p w x n a b r k v u o i t : Int}
theorem daysV_keep {T : TDt} {pp : Int} {V : Vw} : ∀ n, 0 ≤ n → vd (daysV T pp V n) = vd V + n ∧ va (daysV T pp V n) = va V ∧ vr (daysV T pp V n) = vr V := by
  intro n h0
  obtain ⟨k, rfl⟩ : ∃ k : Nat, n = (k : Int) := ⟨n.toNat, by omega⟩
  induction k with
  | zero => exact ⟨(Int.add_zero _).symm, rfl, rfl⟩
  | succ k ih =>
    obtain ⟨h1, h2, h3⟩ := ih (by omega)
    rw [show ((k + 1 : Nat) : Int) = (k : Int) + 1 by omega, daysV_s (by omega)]
    refine ⟨?_, h2, h3⟩
    show vd (daysV T pp V (k : Int)) + 1 = _
    omega
theorem j_pass (hI : Inv μ) : Pair g 40 m_P_pass m_M_pass [aI n] μ := by
  intro Q h
  have hc := hI.cc
  have hm := hI.cm
  have hd : μ 31 0 1 = μ 2 0 1 := (V_at hI.pe.1).2.1
  have hd2 : 0 ≤ μ 2 0 1 ∧ μ 2 0 1 ≤ 9999 := hI.pe.2.1.2.1
  refine T_P_pass (d := 33) (b1 := by intros; omega) (k1 := fun z1 z2 => ?_) (k2 := fun z1 z2 => h _ _ (fun Q' h' => ?_)) (k3 := fun z1 => h _ _ (fun Q' h' => ?_))
  · refine c_P_holder (d := 38) hc (fun t hT => B_P_pass_48 (k1 := c_Mo_goDays (d := 33) (B := 9999) (by omega) hT hc.2.2.1 rfl hI.pe.2.1 (by omega) hI.mi.1 (fun m1 hf hv => B_P_pass_52 (k1 := ?_))))
    have hok := daysV_ok (T := TH μ) (pp := -1) hI.pe.2.1 n z1.1
    obtain ⟨q1, q2, q3⟩ := daysV_keep (T := TH μ) (pp := -1) (V := vC μ 0) n z1.1
    have q4 := daysV_n (T := TH μ) (pp := -1) (V := vC μ 0) n z1.1
    have hok2 : VOk 9999 (daysV (TH μ) (-1) (vC μ 0) n) := ⟨hok.1, ⟨hok.2.1.1, by rw [q1]; exact z2⟩, hok.2.2⟩
    have hbe : bey (daysV (TH μ) (-1) (vC μ 0) n) := fun i i0 i1 => by rw [q2, q3]; rw [q4] at i0; exact hI.pe.2.2.1 i i0 i1
    rw [← hv] at hok2 hbe
    refine c_Cr_worst (d := 38) hok2 (B_P_pass_62 (k1 := h _ _ (fun Q' h' => ?_)))
    have e31 : m1 31 = μ 31 := hf.1 31 (by decide)
    have evM : vM m1 = vM μ := by unfold vM; rw [e31, hf.1 32 (by decide), hf.1 33 (by decide), hf.1 34 (by decide), hf.1 35 (by decide), hf.1 36 (by decide)]
    have hMH : MHn m1 (TH μ) := by
      have := hm.2.2.2.1
      unfold MHn at this ⊢
      rw [e31]
      rcases this with h | ⟨h, h2⟩
      · exact Or.inl h
      · exact Or.inr ⟨h, h2.moved (hf.1 38 (by decide)) (hf.1 39 (by decide)) (hf.1 40 (by decide)) (hf.1 41 (by decide)) (hf.1 42 (by decide)) (hf.1 43 (by decide))⟩
    refine T_M_pass (d := 31) (b1 := by rw [e31]; intros; omega) (k1 := fun _ _ => ?_) (k2 := fun _ z => absurd z (by rw [e31]; omega)) (k3 := fun z => absurd z1 z)
    refine c_M_goDays (d := 31) (B := 9999) (V := vC μ 0) (pp := -1) (by omega) hMH hm.2.2.1 (evM.trans hI.pe.1) hI.pe.2.1 (by omega) (by rw [e31]; exact hI.mi.2.1) (fun m2 hf2 hv2 => B_M_pass_31 (k1 := ?_))
    have hvv : vM m2 = vC m1 0 := hv2.trans hv.symm
    refine c_M_wrong (d := 37) (B := 9999) (by rw [hvv]; exact hok2) (B_M_pass_35 (k1 := ?_))
    rw [hvv]
    have t : Tch (fun k i j => ((k = 2 ∨ k = 6) ∧ i = 0) ∨ (21 ≤ k ∧ k ≤ 25 ∧ ¬ (k = 21 ∧ i = 0 ∧ j = 5)) ∨ (k = 31 ∧ ¬ (i = 0 ∧ j ≠ 1 ∧ j ≠ 27)) ∨ k = 35 ∨ (46 ≤ k ∧ k ≤ 49)) μ m2 := fun k i j hx => by
      have f1 : m2 k i j = m1 k i j := by
        by_cases e : k = 31
        · subst e
          have hi : i = 0 := by omega
          subst hi
          exact hf2.2 j (by omega) (by omega)
        · exact congrFun (congrFun (hf2.1 k (by simp; omega)) i) j
      rw [f1]
      by_cases e : k = 21 ∧ i = 0 ∧ j = 5
      · rw [e.1, e.2.1, e.2.2]; exact hf.2.2
      · by_cases e2 : k = 2 ∨ k = 6
        · have hi : i ≠ 0 := by omega
          rcases e2 with e2 | e2
          · rw [e2, (hf.2.1 i hi).2]
          · rw [e2, (hf.2.1 i hi).1]
        · exact congrFun (congrFun (hf.1 k (by simp; omega)) i) j
    refine h' _ (hI.go t (pe := Or.inl ?_))
    have ev2 : vC m2 0 = vC m1 0 := by
      have c : ∀ k, 2 ≤ k → k ≤ 8 → m2 k = m1 k := fun k k0 k1 => hf2.1 k (by simp; omega)
      unfold vC
      rw [c 2 (by decide) (by decide), c 3 (by decide) (by decide), c 4 (by decide) (by decide), c 5 (by decide) (by decide), c 6 (by decide) (by decide), c 7 (by decide) (by decide), c 8 (by decide) (by decide)]
    have eg : m2 31 0 2 = μ 31 0 2 := by rw [hf2.2 2 (by decide) (by decide), e31]
    unfold PE
    rw [ev2, hvv, eg]
    exact ⟨rfl, hok2, hbe, hI_g hI⟩
  · exact T_M_pass (d := 31) (b1 := by intros; omega) (k1 := fun _ z => absurd z (by omega)) (k2 := fun _ _ => h' _ hI) (k3 := fun z => absurd z1 z)
  · exact T_M_pass (d := 31) (b1 := by intros; omega) (k1 := fun z _ => absurd z z1) (k2 := fun z _ => absurd z z1) (k3 := fun _ => h' _ hI)
def countV (μ : aM) (x : Int) : Int := if x = 0 then μ 2 0 0 else if x = 1 then μ 0 0 5 else if x = 2 then μ 9 0 1 else if x = 3 then μ 9 1 1 else if x = 4 then μ 9 2 1 else if x = 5 then μ 19 0 1 else if x = 6 then μ 26 0 1 else -2
theorem j_count (hI : Inv μ) : Pair g 40 m_P_count m_M_count [aI x] μ := by
  refine Pair.s (countV μ x) hI (fun Q h => ?_) (fun Q h => ?_)
  · unfold countV at h
    refine T_P_count (d := 39) (k1 := fun z => ?_) (k2 := fun z => ?_) (k3 := fun z => ?_) (k4 := fun z => ?_) (k5 := fun z => ?_) (k6 := fun z => ?_) (k7 := fun z => ?_) (k8 := fun z1 z2 z3 z4 z5 z6 z7 => ?_)
    all_goals first | (subst z; exact h) | (rw [if_neg z1, if_neg z2, if_neg z3, if_neg z4, if_neg z5, if_neg z6, if_neg z7] at h; exact h)
  · unfold countV at h
    rw [← (hI_n hI).1, ← hI.tw.2.1, ← hI.sn.1, ← hI.wk.1, ← hI.bk.1, ← hI.tx.1, ← hI.ac.1] at h
    refine T_M_count (d := 39) (k1 := fun z => ?_) (k2 := fun z => ?_) (k3 := fun z => ?_) (k4 := fun z => ?_) (k5 := fun z => ?_) (k6 := fun z => ?_) (k7 := fun z => ?_) (k8 := fun z1 z2 z3 z4 z5 z6 z7 => ?_)
    all_goals first | (subst z; exact h) | (rw [if_neg z1, if_neg z2, if_neg z3, if_neg z4, if_neg z5, if_neg z6, if_neg z7] at h; exact h)
theorem j_trace (hI : Inv μ) : Pair g 40 m_P_trace m_M_trace [aI x] μ := by
  obtain ⟨e1, e2⟩ := hI.ac
  refine Pair.s (if (0 ≤ x ∧ x < 20) ∧ x < μ 26 0 1 then μ 27 0 x else -1) hI (fun Q h => ?_) (fun Q h => ?_)
  · refine T_P_trace (d := 39) (k1 := fun z => ?_) (k2 := fun z1 z2 => ?_) (k3 := fun z1 z2 z3 => ?_) (k4 := fun z1 z2 z3 => ?_)
    · rw [if_neg (by omega)] at h; exact h
    · rw [if_neg (by omega)] at h; exact h
    · rw [if_pos ⟨⟨z1, z2⟩, z3⟩] at h; exact h
    · rw [if_neg (by omega)] at h; exact h
  · refine T_M_trace (d := 38) (k1 := fun z => ?_) (k2 := fun z1 z2 => ?_) (k3 := fun z1 z2 => ?_)
    · rw [if_neg (by omega)] at h; exact h
    · rw [if_neg (by omega)] at h; exact h
    · rw [if_pos (by omega), ← e2 x z1.1 (by omega) (by omega)] at h; exact h
def abv (x : Int) : Int := if x = 4 then 1 else if x = 5 then 2 else if x = 6 then 3 else 0
theorem fget_abv (h0 : 0 ≤ x) (h6 : x ≤ 6) : fget g 100 0 x = abv x := by
  obtain e | e | e | e | e | e | e : x = 0 ∨ x = 1 ∨ x = 2 ∨ x = 3 ∨ x = 4 ∨ x = 5 ∨ x = 6 := by omega
  all_goals (subst e; rfl)
theorem c_P_isUnder (hx : 0 ≤ x ∧ x ≤ 6) (hk : 0 ≤ k ∧ k ≤ 6) (hT : (k = 0 ∨ x = k ∨ (k = 1 ∧ x = 4) ∨ (k = 2 ∧ x = 5) ∨ (k = 3 ∧ x = 6)) → Q (some (aI 1)) μ) (hF : ¬ (k = 0 ∨ x = k ∨ (k = 1 ∧ x = 4) ∨ (k = 2 ∧ x = 5) ∨ (k = 3 ∧ x = 6)) → Q (some (aI 0)) μ) : Cal g (d + 1) m_P_isUnder [aI x, aI k] μ Q := by
  refine T_P_isUnder (k1 := loopR (n := 7) (fun p (y : Int) => Rn g d m_P_isUnder 4 [some (aI x), some (aI k), some (aI y), some (aI p)] [] μ Q) (fun p y => (0 ≤ y ∧ y ≤ 6) ∧ ((k = 0 ∨ y = k ∨ (k = 1 ∧ y = 4) ∨ (k = 2 ∧ y = 5) ∨ (k = 3 ∧ y = 6)) ↔ (k = 0 ∨ x = k ∨ (k = 1 ∧ x = 4) ∨ (k = 2 ∧ x = 5) ∨ (k = 3 ∧ x = 6))) ∧ (1 ≤ p → y ≤ 3) ∧ (2 ≤ p → y = 0)) ?_ ?_ 0 x (by omega) (by omega) ⟨hx, Iff.rfl, fun z => absurd z (by omega), fun z => absurd z (by omega)⟩)
  · rintro p y p0 p1 ⟨hy, hu, h1, h2⟩ ih
    have hT' : (k = 0 ∨ y = k ∨ (k = 1 ∧ y = 4) ∨ (k = 2 ∧ y = 5) ∨ (k = 3 ∧ y = 6)) → Q (some (aI 1)) μ := fun z => hT (hu.1 z)
    refine B_P_isUnder_4 (k1 := fun z => absurd z (by clear hT hF hu h1 h2 ih; omega)) (k2 := fun z => absurd z (by clear hT hF hu h1 h2 ih; omega)) (k3 := fun _ z z' => absurd z z') (k4 := fun _ z _ => hT' (Or.inr (Or.inl z))) (b1 := fun _ _ => by show _ ∧ _ < (7 : Int); omega) (b2 := fun _ _ => by omega) (k5 := fun _ z => ?_)
    rw [fget_abv hy.1 hy.2]
    refine ih _ ⟨?_, ?_, ?_, ?_⟩
    · unfold abv; split; omega; split; omega; split <;> omega
    · rw [← hu]
      clear hT hF hu hT' h1 h2 ih
      obtain e | e | e | e | e | e | e : y = 0 ∨ y = 1 ∨ y = 2 ∨ y = 3 ∨ y = 4 ∨ y = 5 ∨ y = 6 := by omega
      all_goals (subst e; first | rw [show abv 0 = 0 from rfl] | rw [show abv 1 = 0 from rfl] | rw [show abv 2 = 0 from rfl] | rw [show abv 3 = 0 from rfl] | rw [show abv 4 = 1 from rfl] | rw [show abv 5 = 2 from rfl] | rw [show abv 6 = 3 from rfl])
      all_goals omega
    · intro _; unfold abv; split; omega; split; omega; split <;> omega
    · intro z
      have := h1 (by omega)
      unfold abv; rw [if_neg (by omega), if_neg (by omega), if_neg (by omega)]
  · rintro y ⟨hy, hu, h1, h2⟩
    have hy0 := h2 (by omega)
    subst hy0
    have hF' : 0 ≠ k → Q (some (aI 0)) μ := fun z => hF (fun y => by have := hu.2 y; omega)
    have hT' : 0 = k → Q (some (aI 1)) μ := fun z => hT (hu.1 (Or.inr (Or.inl z)))
    clear hT hF hu h1 h2
    exact B_P_isUnder_4 (k1 := fun _ z => hF' z) (k2 := fun _ z => hT' z) (k3 := fun z => absurd z (by omega)) (k4 := fun z => absurd z (by omega)) (b1 := fun z => absurd z (by omega)) (b2 := fun z => absurd z (by omega)) (k5 := fun z => absurd z (by omega))
theorem j_taken (hI : Inv μ) : Pair g 40 m_P_taken m_M_taken [aI p, aI k] μ := by
  have hn := hI_n hI
  have hn1 := hn.1
  intro Q h
  refine T_P_taken (d := 38) (k1 := fun z => h _ _ (fun Q' h' => ?_)) (k2 := fun z1 z2 z3 => ?_) (k3 := fun z1 z2 z3 => h _ _ (fun Q' h' => ?_)) (k4 := fun z1 z2 => h _ _ (fun Q' h' => ?_))
  · have h2 := h' μ hI
    clear h h'
    refine T_M_taken (d := 37) (k1 := ?_) (k2 := ?_) (k3 := ?_) (k4 := ?_) (k5 := ?_) (k6 := ?_) (k7 := ?_) (k8 := ?_) (k9 := ?_) (k10 := ?_) (k11 := ?_) (k12 := ?_) (k13 := ?_) (k14 := ?_) (k15 := ?_) (k16 := ?_) (k17 := ?_) (k18 := ?_) (k19 := ?_)
    all_goals (intros; first | exact h2 | (exfalso; omega))
  · have e := hI_k hI (i := p) z3.1 (by omega)
    have e1 := e.1
    refine c_P_isUnder (d := 38) e.2 (by omega) (fun hu => B_P_taken_42 (k1 := fun z => absurd z (by omega)) (k2 := fun _ => h _ _ (fun Q' h' => ?_))) (fun hu => B_P_taken_42 (k1 := fun _ => h _ _ (fun Q' h' => ?_)) (k2 := fun z => absurd rfl z))
    · have h2 := h' μ hI
      clear h h'
      rw [← e1] at h2 hu
      refine T_M_taken (d := 37) (k1 := ?_) (k2 := ?_) (k3 := ?_) (k4 := ?_) (k5 := ?_) (k6 := ?_) (k7 := ?_) (k8 := ?_) (k9 := ?_) (k10 := ?_) (k11 := ?_) (k12 := ?_) (k13 := ?_) (k14 := ?_) (k15 := ?_) (k16 := ?_) (k17 := ?_) (k18 := ?_) (k19 := ?_)
      all_goals (intros; first | exact h2 | (exfalso; omega))
    · have h2 := h' μ hI
      clear h h'
      rw [← e1] at hu
      refine T_M_taken (d := 37) (k1 := ?_) (k2 := ?_) (k3 := ?_) (k4 := ?_) (k5 := ?_) (k6 := ?_) (k7 := ?_) (k8 := ?_) (k9 := ?_) (k10 := ?_) (k11 := ?_) (k12 := ?_) (k13 := ?_) (k14 := ?_) (k15 := ?_) (k16 := ?_) (k17 := ?_) (k18 := ?_) (k19 := ?_)
      all_goals (intros; first | exact h2 | (exfalso; omega))
  · have h2 := h' μ hI
    clear h h'
    refine T_M_taken (d := 37) (k1 := ?_) (k2 := ?_) (k3 := ?_) (k4 := ?_) (k5 := ?_) (k6 := ?_) (k7 := ?_) (k8 := ?_) (k9 := ?_) (k10 := ?_) (k11 := ?_) (k12 := ?_) (k13 := ?_) (k14 := ?_) (k15 := ?_) (k16 := ?_) (k17 := ?_) (k18 := ?_) (k19 := ?_)
    all_goals (intros; first | exact h2 | (exfalso; omega))
  · have h2 := h' μ hI
    clear h h'
    refine T_M_taken (d := 37) (k1 := ?_) (k2 := ?_) (k3 := ?_) (k4 := ?_) (k5 := ?_) (k6 := ?_) (k7 := ?_) (k8 := ?_) (k9 := ?_) (k10 := ?_) (k11 := ?_) (k12 := ?_) (k13 := ?_) (k14 := ?_) (k15 := ?_) (k16 := ?_) (k17 := ?_) (k18 := ?_) (k19 := ?_)
    all_goals (intros; first | exact h2 | (exfalso; omega))
def fstJ (F : Int → Int) (n : Int) : Int := fI (fun s p => if s = -5 then F p else s) (-5) n
theorem fst_key {F : Int → Int} {n : Int} {C : Int → Prop} (hQ : C (fstJ F n)) : ∀ s, 0 ≤ s → s ≤ n → (∀ k, 0 ≤ k → k < s → F k = -5) → (s = n → C (-5)) ∧ (s < n → F s ≠ -5 → C (F s)) := by
  intro s s0 s1 hs
  have hA : ∀ t, 0 ≤ t → t ≤ s → fstJ F t = -5 := by
    intro t t0
    obtain ⟨k, rfl⟩ : ∃ k : Nat, t = (k : Int) := ⟨t.toNat, by omega⟩
    induction k with
    | zero => intro _; rfl
    | succ k ih =>
      intro h
      have e : fstJ F ((k : Int) + 1) = if fstJ F (k : Int) = -5 then F (k : Int) else fstJ F (k : Int) := fI_s (by omega)
      rw [show ((k + 1 : Nat) : Int) = (k : Int) + 1 by omega, e, if_pos (ih (by omega) (by omega))]
      exact hs _ (by omega) (by omega)
  have hB : s < n → F s ≠ -5 → ∀ t, s + 1 ≤ t → fstJ F t = F s := by
    intro h1 h2 t ht
    obtain ⟨k, rfl⟩ : ∃ k : Nat, t = s + 1 + (k : Int) := ⟨(t - s - 1).toNat, by omega⟩
    induction k with
    | zero =>
      have e : fstJ F (s + 1) = if fstJ F s = -5 then F s else fstJ F s := fI_s (by omega)
      rw [show s + 1 + ((0 : Nat) : Int) = s + 1 by omega, e, if_pos (hA s s0 (by omega))]
    | succ k ih =>
      have e : fstJ F ((s + 1 + (k : Int)) + 1) = if fstJ F (s + 1 + (k : Int)) = -5 then F (s + 1 + (k : Int)) else fstJ F (s + 1 + (k : Int)) := fI_s (by omega)
      rw [show s + 1 + ((k + 1 : Nat) : Int) = (s + 1 + (k : Int)) + 1 by omega, e, ih (by omega), if_neg h2]
  refine ⟨fun e => ?_, fun h1 h2 => ?_⟩
  · have := hA s s0 (by omega)
    rw [e] at this
    rw [← this]; exact hQ
  · have := hB h1 h2 n (by omega)
    rw [← this]; exact hQ
end
