/-! The class goes days. -/
def Fr (l : List Nat) (μ μ' : aM) : Prop := ∀ k, k ∉ l → μ' k = μ k
theorem Fr.rf {l : List Nat} {μ : aM} : Fr l μ μ := fun _ _ => rfl
theorem Fr.tr {l : List Nat} {μ μ₁ μ₂ : aM} (h : Fr l μ μ₁) (h2 : Fr l μ₁ μ₂) : Fr l μ μ₂ := fun k hk => (h2 k hk).trans (h k hk)
theorem Fr.up {l : List Nat} {μ μ₁ : aM} {k : Nat} {i j x : Int} (h : Fr l μ μ₁) (hk : k ∈ l := by decide) : Fr l μ (up μ₁ k i j x) := fun k' hk' => (up_k (fun e : k' = k => hk' (by rw [e]; exact hk))).trans (h k' hk')
theorem Fr.le {l l' : List Nat} {μ μ' : aM} (h : Fr l μ μ') (hl : ∀ k, k ∈ l → k ∈ l' := by decide) : Fr l' μ μ' := fun k hk => h k (fun z => hk (hl k z))
theorem up_other {μ : aM} {k k' : Nat} {i j x i' j' : Int} (h : k' ≠ k) : up μ k i j x k' i' j' = μ k' i' j' := by rw [up_k h]
section
variable {μ : aM} {a p : Int}
theorem vk_C (h0 : 0 ≤ p) (h6 : p < 6) : vk (vC μ a) p = μ 3 a p := t6_in h0 h6
theorem vv_C (h0 : 0 ≤ p) (h6 : p < 6) : vv (vC μ a) p = μ 4 a p := t6_in h0 h6
theorem vu_C (h0 : 0 ≤ p) (h6 : p < 6) : vu (vC μ a) p = μ 5 a p := t6_in h0 h6
theorem va_C (h0 : 0 ≤ p) (h6 : p < 6) : va (vC μ a) p = μ 7 a p := t6_in h0 h6
theorem vr_C (h0 : 0 ≤ p) (h6 : p < 24) : vr (vC μ a) p = μ 8 a p := t24_in h0 h6
theorem vk_M (h0 : 0 ≤ p) (h6 : p < 6) : vk (vM μ) p = μ 32 0 p := t6_in h0 h6
theorem vv_M (h0 : 0 ≤ p) (h6 : p < 6) : vv (vM μ) p = μ 33 0 p := t6_in h0 h6
theorem vu_M (h0 : 0 ≤ p) (h6 : p < 6) : vu (vM μ) p = μ 34 0 p := t6_in h0 h6
theorem va_M (h0 : 0 ≤ p) (h6 : p < 6) : va (vM μ) p = bitF (μ 31 0 2) p := t6_in h0 h6
theorem vr_M (h0 : 0 ≤ p) (h6 : p < 24) : vr (vM μ) p = μ 36 0 p := t24_in h0 h6
end
theorem vC_cong {μ μ' : aM} {a : Int} (h : ∀ k, 2 ≤ k → k ≤ 8 → μ' k = μ k) : vC μ' a = vC μ a := by
  unfold vC; rw [h 2 (by omega) (by omega), h 3 (by omega) (by omega), h 4 (by omega) (by omega), h 5 (by omega) (by omega), h 6 (by omega) (by omega), h 7 (by omega) (by omega), h 8 (by omega) (by omega)]
theorem CTn.moved {μ μ' : aM} {t : Int} {T : TDt} (h : ∀ k, 14 ≤ k → k ≤ 18 → μ' k = μ k) (hT : CTn μ t T) : CTn μ' t T := by
  unfold CTn at hT ⊢
  rw [h 14 (by omega) (by omega), h 15 (by omega) (by omega), h 16 (by omega) (by omega), h 17 (by omega) (by omega), h 18 (by omega) (by omega)]; exact hT
section
variable {g : aG} {d : Nat} {μ : aM} {Q : aQ} {p B t a : Int} {T : TDt}
theorem c_Mo_ringing {aw lg cm : Int → Int} {n m : Int} (hn : μ 2 a 0 = n) (hn6 : 0 ≤ n ∧ n ≤ 6) (ha : ∀ q, 0 ≤ q → q < n → μ 7 a q = aw q) (hl : ∀ q, 0 ≤ q → q < n → μ 22 0 q = lg q) (hc : ∀ q, 0 ≤ q → q < n → μ 23 0 q = cm q) (hr : ∀ q, 0 ≤ q → q < n → lg q ≤ 990) (h : Q (some (aI (rsum aw lg cm n m))) μ) : Cal g (d + 2) m_Mo_ringing [aR 21 0, aR 2 a, aI m] μ Q := by
  refine T_Mo_ringing (k1 := loopR (n := n) (fun p (x : Int) => Rn g (d + 1) m_Mo_ringing 5 [some (aR 21 0), some (aR 2 a), some (aI m), some (aI x), some (aI p)] [] μ Q) (fun p x => x = rsum aw lg cm p m) ?_ ?_ 0 0 (by omega) hn6.1 rfl)
  · intro p x h0 hp hx ih
    have e1 := ha p h0 hp
    have e2 := hl p h0 hp
    have e3 := hc p h0 hp
    have e4 := hr p h0 hp
    have hb := rsum_rng (aw := aw) (cm := cm) (mi := m) hr p h0 (by omega)
    rw [← hx] at hb
    have hs : rsum aw lg cm (p + 1) m = if (aw p = 0 ∧ 0 < lg p) ∧ cm p = m then x + lg p else x := by rw [hx]; exact fI_s h0
    refine B_Mo_ringing_5 (k1 := fun z => absurd z (by omega)) (k2 := fun _ z => ih _ ?_) (k3 := fun _ z1 z2 => ih _ ?_) (k4 := fun _ z1 z2 => ih _ ?_)
    · rw [hs, if_neg (by rw [← e1, ← e2]; exact fun w => z w.1)]
    · rw [hs, if_neg (by rw [← e3]; exact fun w => z2 w.2)]
    · rw [hs, if_pos (by rw [← e1, ← e2, ← e3]; exact ⟨z1, z2⟩), e2]
  · intro x hx
    refine B_Mo_ringing_5 (k1 := fun _ => ?_) (k2 := fun z => absurd z (by omega)) (k3 := fun z => absurd z (by omega)) (k4 := fun z => absurd z (by omega)) (b6 := fun z => absurd z (by omega))
    rw [hx]; exact h
theorem c_Mo_look {pp : Int} {V : Vw} (hT : CTn μ t T) (hok : TDok T) (hVe : vC μ a = V) (hV : VOk B V) (hB : B ≤ 1000000) (hpp : μ 21 0 5 = pp) (h : ∀ μ', Fr [22, 23, 24] μ μ' → (∀ p, 0 ≤ p → p < vn V → μ' 23 0 p = cmV T pp V p ∧ μ' 24 0 p = rgV T pp V p ∧ μ' 22 0 p = lgV T pp V p) → Q none μ') : Cal g (d + 4) m_Mo_look [aR 21 0, aR 2 a, aR 14 t] μ Q := by
  have hn : 0 ≤ vn V ∧ vn V ≤ 6 := hV.1
  have hne : μ 2 a 0 = vn V := by rw [← hVe]; rfl
  refine T_Mo_look (k1 := loopR (n := vn V) (fun p (m : aM) => Rn g (d + 3) m_Mo_look 2 [some (aR 21 0), some (aR 2 a), some (aR 14 t), some (aI p)] [] m Q) (fun p m => Fr [22, 23, 24] μ m ∧ ∀ q, 0 ≤ q → q < p → m 22 0 q = lgV T pp V q ∧ m 23 0 q = cmV T pp V q) ?_ ?_ 0 μ (by omega) hn.1 ⟨Fr.rf, fun q h0 h1 => absurd h1 (by omega)⟩)
  · rintro p m h0 hp ⟨hf, hm⟩ ih
    have e2 : m 2 a 0 = vn V := by rw [hf 2 (by decide)]; exact hne
    have e21 : m 21 0 5 = pp := by rw [hf 21 (by decide)]; exact hpp
    have hVm : vC m a = V := by rw [vC_cong (fun k k1 k2 => hf k (by simp; omega))]; exact hVe
    obtain ⟨b1, b2, b3, b4, b5, b6⟩ := vok_p (hVm ▸ hV) h0 (show p < 6 by omega)
    have hl := lgV_rng hok (pp := pp) (p := p) (V := V)
    have go : ∀ x, x = lgV T pp V p → Rn g (d + 3) m_Mo_look 2 [some (aR 21 0), some (aR 2 a), some (aR 14 t), some (aI (p + 1))] [] (up (up m 22 0 p x) 23 0 p (((m 5 a p) + ((up m 22 0 p x) 22 0 p)) - (m 6 a p))) Q := fun x hx => ih _ ⟨hf.up.up, fun q q0 q1 => by
      rw [up_other (show (22 : Nat) ≠ 23 by decide), up_same]
      by_cases hq : q = p
      · rw [hq, up_same, up_same, hx]
        refine ⟨rfl, ?_⟩
        unfold cmV
        rw [← hVm, vu_C h0 (by omega), vo_C h0 (by omega)]
      · rw [up_ne hq, up_ne hq, up_other (show (23 : Nat) ≠ 22 by decide)]
        exact hm q q0 (by omega)⟩
    refine B_Mo_look_2 (k1 := fun z => absurd z (by omega)) (k2 := fun _ z => ?_) (k3 := fun _ z => ?_) (b4 := fun _ _ => by rw [up_same]; omega) (b6 := fun _ _ => by rw [up_same]; omega)
    · refine Cal_le (Nat.le_refl _) (c_To_lagOf (CTn.moved (fun k k1 k2 => hf k (by simp; omega)) hT) (hVm ▸ hV) hB ⟨h0, by omega⟩ ?_)
      have hx : lagT T (factF p (m 3 a p) (m 4 a p) (m 5 a p) (m 6 a p) (m 2 a 1)) = lgV T pp V p := by
        unfold lgV factV
        rw [if_neg (by omega), ← hVm, vk_C h0 (by omega), vv_C h0 (by omega), vu_C h0 (by omega), vo_C h0 (by omega)]; rfl
      exact B_Mo_look_33 (b4 := by rw [up_same]; omega) (b6 := by rw [up_same]; omega) (k1 := go _ hx)
    · exact go 0 (by unfold lgV; rw [if_pos (by omega)])
  · rintro m ⟨hf, hm⟩
    have e2 : m 2 a 0 = vn V := by rw [hf 2 (by decide)]; exact hne
    refine B_Mo_look_2 (k1 := fun _ => ?_) (k2 := fun z => absurd z (by omega)) (k3 := fun z => absurd z (by omega)) (b4 := fun z => absurd z (by omega)) (b6 := fun z => absurd z (by omega))
    refine loopR (n := vn V) (fun p (m : aM) => Rn g (d + 3) m_Mo_look 68 [some (aR 21 0), some (aR 2 a), some (aR 14 t), some (aI p)] [] m Q) (fun p m => Fr [22, 23, 24] μ m ∧ (∀ q, 0 ≤ q → q < vn V → m 22 0 q = lgV T pp V q ∧ m 23 0 q = cmV T pp V q) ∧ ∀ q, 0 ≤ q → q < p → m 24 0 q = rgV T pp V q) ?_ ?_ 0 m (by omega) hn.1 ⟨hf, hm, fun q h0 h1 => absurd h1 (by omega)⟩
    · rintro p m h0 hp ⟨hf, hm, hr⟩ ih
      have e2 : m 2 a 0 = vn V := by rw [hf 2 (by decide)]; exact hne
      have hVm : vC m a = V := by rw [vC_cong (fun k k1 k2 => hf k (by simp; omega))]; exact hVe
      have ea : ∀ q, 0 ≤ q → q < vn V → m 7 a q = va V q := fun q h0 h1 => by rw [← hVm, va_C h0 (by omega)]
      have go : ∀ x, x = rgV T pp V p → Rn g (d + 3) m_Mo_look 68 [some (aR 21 0), some (aR 2 a), some (aR 14 t), some (aI (p + 1))] [] (up m 24 0 p x) Q := fun x hx => ih _ ⟨hf.up, fun q q0 q1 => by rw [up_other (show (22 : Nat) ≠ 24 by decide), up_other (show (23 : Nat) ≠ 24 by decide)]; exact hm q q0 q1, fun q q0 q1 => by
        by_cases hq : q = p
        · rw [hq, up_same, hx]
        · rw [up_ne hq]; exact hr q q0 (by omega)⟩
      have hd : ((m 7 a p) = 0 ∧ 0 < (m 22 0 p)) ↔ (va V p = 0 ∧ 0 < lgV T pp V p) := by rw [ea p h0 hp, (hm p h0 hp).1]
      refine B_Mo_look_68 (k1 := fun z => absurd z (by omega)) (k2 := fun _ z => go 0 ?_) (k3 := fun _ z => ?_)
      · unfold rgV; rw [if_neg (fun w => z (hd.mpr w))]
      · refine Cal_le (show d + 2 ≤ d + 3 by omega) (c_Mo_ringing e2 hn ea (fun q q0 q1 => (hm q q0 q1).1) (fun q q0 q1 => (hm q q0 q1).2) (fun q _ _ => (lgV_rng hok).2) ?_)
        refine B_Mo_look_101 (k1 := go _ ?_)
        unfold rgV; rw [if_pos (hd.mp z), (hm p h0 hp).2]
    · rintro m ⟨hf, hm, hr⟩
      have e2 : m 2 a 0 = vn V := by rw [hf 2 (by decide)]; exact hne
      refine B_Mo_look_68 (k1 := fun _ => ?_) (k2 := fun z => absurd z (by omega)) (k3 := fun z => absurd z (by omega))
      exact h m hf (fun p h0 h1 => ⟨(hm p h0 h1).2, hr p h0 h1, (hm p h0 h1).1⟩)
end
