/-! WHAT IS SEEN: day by day, and note by note. -/
def seenB (T : TDt) (V : Vw) (W O D : Int → Int) (n : Int) : Bool := fI (fun b k => b && decide (vo (daysV T (-1) V (D k)) (W k) = O k)) true n
theorem seenB_iff {T : TDt} {V : Vw} {W O D : Int → Int} : ∀ n, 0 ≤ n → (seenB T V W O D n = true ↔ ∀ k, 0 ≤ k → k < n → vo (daysV T (-1) V (D k)) (W k) = O k) := by
  intro n h0
  obtain ⟨k, rfl⟩ : ∃ k : Nat, n = (k : Int) := ⟨n.toNat, by omega⟩
  induction k with
  | zero => exact ⟨fun _ i h1 h2 => absurd h2 (by omega), fun _ => rfl⟩
  | succ k ih =>
    have h := ih (by omega)
    unfold seenB at h ⊢
    rw [show ((k + 1 : Nat) : Int) = (k : Int) + 1 by omega, fI_s (by omega), Bool.and_eq_true, decide_eq_true_eq, h]
    constructor
    · rintro ⟨h1, h2⟩ i i0 i1
      by_cases e : i = (k : Int)
      · rw [e]; exact h2
      · exact h1 i i0 (by omega)
    · intro h1
      exact ⟨fun i i0 i1 => h1 i i0 (by omega), h1 k (by omega) (by omega)⟩
def SnOk (W D : Int → Int) (n : Int) : Prop := (0 ≤ n ∧ n ≤ 5) ∧ ∀ k, 0 ≤ k → k < n → (0 ≤ W k ∧ W k < 6) ∧ (0 ≤ D k ∧ D k ≤ 20)
def lastD (D : Int → Int) (n : Int) : Int := fI (fun m k => i_max m (D k)) 0 n
theorem lastD_sp {D : Int → Int} : ∀ n, 0 ≤ n → (∀ k, 0 ≤ k → k < n → 0 ≤ D k ∧ D k ≤ 20) → (0 ≤ lastD D n ∧ lastD D n ≤ 20) ∧ ∀ k, 0 ≤ k → k < n → D k ≤ lastD D n := by
  intro n h0
  obtain ⟨k, rfl⟩ : ∃ k : Nat, n = (k : Int) := ⟨n.toNat, by omega⟩
  induction k with
  | zero =>
    intro _
    refine ⟨?_, fun i h1 h2 => absurd h2 (by omega)⟩
    show 0 ≤ (0 : Int) ∧ (0 : Int) ≤ 20; omega
  | succ k ih =>
    intro hD
    obtain ⟨h1, h2⟩ := ih (by omega) (fun i i0 i1 => hD i i0 (by omega))
    have h3 := hD k (by omega) (by omega)
    have e : lastD D ((k : Int) + 1) = i_max (lastD D (k : Int)) (D k) := fI_s (by omega)
    rw [show ((k + 1 : Nat) : Int) = (k : Int) + 1 by omega, e]
    generalize lastD D (k : Int) = y at *
    refine ⟨by unfold i_max; split <;> omega, fun i i0 i1 => ?_⟩
    by_cases z : i = (k : Int)
    · rw [z]; unfold i_max; split <;> omega
    · have := h2 i i0 (by omega)
      unfold i_max; split <;> omega
section
variable {g : aG} {d : Nat} {μ m0 : aM} {Q : aQ} {p B a b n pp w x : Int} {T : TDt} {V V' : Vw}
theorem c_No_mostDays (hn : 0 ≤ μ 9 a 1 ∧ μ 9 a 1 ≤ 5) (hD : ∀ k, 0 ≤ k → k < μ 9 a 1 → 0 ≤ μ 12 a k ∧ μ 12 a k ≤ 20) (h : Q (some (aI (lastD (μ 12 a) (μ 9 a 1)))) μ) (ha : a = 0) : Cal g (d + 1) m_No_mostDays [aR 9 a] μ Q := by
  subst ha
  refine T_No_mostDays (k1 := loopR (n := μ 9 0 1) (fun k (x : Int) => Rn g d m_No_mostDays 4 [some (aR 9 0), some (aI x), some (aI k)] [] μ Q) (fun k x => x = lastD (μ 12 0) k) ?_ ?_ 0 0 (by omega) hn.1 rfl)
  · intro k x k0 hk hx ih
    refine B_No_mostDays_4 (k1 := fun z => absurd z (by omega)) (k2 := fun _ => ih _ ?_)
    rw [hx]; unfold lastD; rw [fI_s k0]
  · intro x hx
    refine B_No_mostDays_4 (k1 := fun _ => ?_) (k2 := fun z => absurd z (by omega))
    rw [hx]; exact h
theorem c_P_behind (hv : vC μ 2 = V') (hS : SnOk (μ 10 0) (μ 12 0) (μ 9 0 1)) (h : ∀ s, (s = 0 ∧ ¬ (∀ k, 0 ≤ k → k < μ 9 0 1 → μ 12 0 k = x → vo V' (μ 10 0 k) = μ 11 0 k)) ∨ (s = 1 ∧ ∀ k, 0 ≤ k → k < μ 9 0 1 → μ 12 0 k = x → vo V' (μ 10 0 k) = μ 11 0 k) → Q (some (aI s)) μ) : Cal g (d + 1) m_P_isAsSeenBehind [aR 0 0, aI x] μ Q := by
  have hn := hS.1
  refine T_P_isAsSeenBehind (k1 := loopR (n := μ 9 0 1) (fun k (_ : Unit) => Rn g d m_P_isAsSeenBehind 10 [some (aR 0 0), some (aI x), some (aR 9 0), some (aI k)] [] μ Q) (fun k _ => ∀ j, 0 ≤ j → j < k → μ 12 0 j = x → vo V' (μ 10 0 j) = μ 11 0 j) ?_ ?_ 0 () (by omega) hn.1 (fun j h0 h1 => absurd h1 (by omega)))
  · intro k _ k0 hk hq ih
    have hs := hS.2 k k0 hk
    have ev : vo V' (μ 10 0 k) = μ 6 2 (μ 10 0 k) := by rw [← hv]; exact vo_C hs.1.1 hs.1.2
    have nx : (μ 12 0 k = x → vo V' (μ 10 0 k) = μ 11 0 k) → ∀ j, 0 ≤ j → j < k + 1 → μ 12 0 j = x → vo V' (μ 10 0 j) = μ 11 0 j := fun z j j0 j1 hj => by
      by_cases e : j = k
      · rw [e] at hj ⊢; exact z hj
      · exact hq j j0 (by omega) hj
    refine B_P_isAsSeenBehind_10 (k1 := fun z => absurd z (by omega)) (k2 := fun _ z => ih () (nx (fun y => absurd y z))) (k3 := fun _ _ z => ih () (nx (fun _ => by rw [ev]; exact z))) (k4 := fun _ z1 z2 => h 0 (Or.inl ⟨rfl, fun y => z2 (by rw [← ev]; exact y k k0 hk z1)⟩))
  · intro _ hq
    exact B_P_isAsSeenBehind_10 (k1 := fun _ => h 1 (Or.inr ⟨rfl, hq⟩)) (k2 := fun z => absurd z (by omega)) (k3 := fun z => absurd z (by omega)) (k4 := fun z => absurd z (by omega)) (b1 := fun z => absurd z (by omega)) (b3 := fun z => absurd z (by omega))
end
