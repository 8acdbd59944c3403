/-! Lowest terms. -/
def gcI (a b : Int) : Int := ((Int.gcd a b : Nat) : Int)
def lowV (a b x : Int) : Int := if x = 0 then i_div a (gcI a b) else i_div b (gcI a b)
theorem gcI_dvd {a b : Int} : gcI a b ∣ a ∧ gcI a b ∣ b := ⟨Int.gcd_dvd_left a b, Int.gcd_dvd_right a b⟩
theorem gcI_pos {a b : Int} (hb : 0 < b) : 0 < gcI a b := by
  have h := Int.gcd_pos_of_ne_zero_right a (show b ≠ 0 by omega)
  unfold gcI; omega
theorem gcI_ge {a b e : Int} (h1 : e ∣ a) (h2 : e ∣ b) (hb : 0 < b) : e ≤ gcI a b := Int.le_of_dvd (gcI_pos hb) (Int.dvd_coe_gcd h1 h2)
section
variable {g : aG} {d : Nat} {μ m0 : aM} {Q : aQ} {a b x : Int}
theorem c_P_low (ha : 0 ≤ a ∧ a < 2147483648) (hb : 1 ≤ μ 2 0 0 ∧ μ 2 0 0 ≤ 6) (h : Q (some (aL (lowV a (μ 2 0 0) x))) μ) : Cal g (d + 1) m_P_inLowestTerms [aR 0 0, aI a, aI x] μ Q := by
  have hr : ∀ {y e : Int}, 0 ≤ y → y < 2147483648 → 0 < e → (i_rem y e = 0 ↔ e ∣ y) := fun h0 h1 h2 => by
    rw [i_rem_nn h0 h1 h2]; exact Int.dvd_iff_emod_eq_zero.symm
  refine T_P_inLowestTerms (k1 := loopR (n := μ 2 0 0 + 1) (fun k (y : Int) => Rn g d m_P_inLowestTerms 17 [some (aR 0 0), some (aI a), some (aI x), some (aI (μ 2 0 0)), some (aI y), some (aI k)] [] μ Q) (fun k y => 2 ≤ k ∧ (y ∣ a ∧ y ∣ μ 2 0 0 ∧ 1 ≤ y ∧ y < k) ∧ ∀ e, 1 ≤ e → e < k → e ∣ a → e ∣ μ 2 0 0 → e ≤ y) ?_ ?_ 2 1 (by omega) ?_ ⟨by omega, ⟨Int.one_dvd _, Int.one_dvd _, by omega, by omega⟩, fun e h1 h2 _ _ => by omega⟩)
  · rintro k y k0 hk ⟨h2, hy, hq⟩ ih
    have nx : ∀ y', (y' ∣ a ∧ y' ∣ μ 2 0 0 ∧ 1 ≤ y' ∧ y' < k + 1) → y ≤ y' → (k ∣ a → k ∣ μ 2 0 0 → k ≤ y') → Rn g d m_P_inLowestTerms 17 [some (aR 0 0), some (aI a), some (aI x), some (aI (μ 2 0 0)), some (aI y'), some (aI (k + 1))] [] μ Q := fun y' h1 h3 h4 => ih y' ⟨by omega, h1, fun e e1 e2 e3 e4 => by
      by_cases z : e = k
      · rw [z] at e3 e4 ⊢; exact h4 e3 e4
      · have := hq e e1 (by omega) e3 e4
        omega⟩
    refine B_P_inLowestTerms_17 (k1 := fun z => absurd z (by omega)) (k2 := fun z => absurd z (by omega)) (k3 := fun _ z => nx y ⟨hy.1, hy.2.1, hy.2.2.1, by omega⟩ (Int.le_refl _) (fun w _ => absurd ((hr ha.1 ha.2 (by omega)).mpr w) z)) (k4 := fun _ _ z => nx y ⟨hy.1, hy.2.1, hy.2.2.1, by omega⟩ (Int.le_refl _) (fun _ w => absurd ((hr (by omega) (by omega) (by omega)).mpr w) z)) (k5 := fun _ z1 z2 => ?_)
    have d1 := (hr ha.1 ha.2 (show 0 < k by omega)).mp z1
    have d2 := (hr (show 0 ≤ μ 2 0 0 by omega) (by omega) (show 0 < k by omega)).mp z2
    refine nx k ⟨d1, d2, by omega, by omega⟩ ?_ (fun _ _ => Int.le_refl _)
    omega
  · rintro y ⟨h2, hy, hq⟩
    have e : y = gcI a (μ 2 0 0) := by
      have g1 := gcI_pos (a := a) (b := μ 2 0 0) (by omega)
      have g2 := gcI_ge hy.1 hy.2.1 (show 0 < μ 2 0 0 by omega)
      have g3 := hq (gcI a (μ 2 0 0)) (by omega) (by have := Int.le_of_dvd (show 0 < μ 2 0 0 by omega) (gcI_dvd (a := a) (b := μ 2 0 0)).2; omega) gcI_dvd.1 gcI_dvd.2
      omega
    unfold lowV at h
    rw [← e] at h
    refine B_P_inLowestTerms_17 (k1 := fun _ z => ?_) (k2 := fun _ z => ?_) (k3 := fun z => absurd z (by omega)) (k4 := fun z => absurd z (by omega)) (k5 := fun z => absurd z (by omega))
    · rw [if_neg z] at h; exact h
    · rw [if_pos z] at h; exact h
  · omega
end
