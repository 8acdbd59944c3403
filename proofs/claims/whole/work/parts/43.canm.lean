theorem putN_id {μ : aM} {p : Int} : putN (vM μ) p (vv (vM μ) p) = vM μ := by
  have e : t6 (pu (vv (vM μ)) p (vv (vM μ) p)) = vv (vM μ) := by
    have h1 : pu (vv (vM μ)) p (vv (vM μ) p) = vv (vM μ) := by
      funext i; unfold pu; split
      · rename_i z; rw [z]
      · rfl
    rw [h1]; exact t6_t6
  unfold putN; rw [e]; rfl
/-- what a trial of a v may change -/
def YFr (p : Int) (μ m : aM) : Prop := (∀ k, k ≠ 33 → k ∉ [31, 34, 35, 46, 47, 48, 49, 50, 51] → m k = μ k) ∧ (∀ j, j ≠ 1 → j ≠ 2 → j ≠ 25 → j ≠ 27 → j ≠ 31 → j ≠ 32 → m 31 0 j = μ 31 0 j) ∧ ∀ i j, ¬ (i = 0 ∧ j = p) → m 33 i j = μ 33 i j
theorem YFr.x {p : Int} {μ m m' : aM} (h : YFr p μ m) (hx : XFr m m') : YFr p μ m' := ⟨fun k h1 h2 => (hx.1 k h2).trans (h.1 k h1 h2), fun j a b c d e f => (hx.2 j a b c d e f).trans (h.2.1 j a b c d e f), fun i j hij => by rw [hx.1 33 (by decide)]; exact h.2.2 i j hij⟩
theorem YFr.n {p y : Int} {μ m : aM} (h : YFr p μ m) : YFr p μ (up m 33 0 p y) := ⟨fun k h1 h2 => (up_k h1).trans (h.1 k h1 h2), fun j a b c d e f => (up_other (by decide)).trans (h.2.1 j a b c d e f), fun i j hij => by
  have : up m 33 0 p y 33 i j = m 33 i j := by unfold up; rw [if_neg (fun z => hij ⟨z.2.2, z.2.1⟩)]
  rw [this]; exact h.2.2 i j hij⟩
theorem MHn.y {p : Int} {μ μ' : aM} {T : TDt} (hs : YFr p μ μ') (h : MHn μ T) : MHn μ' T := by
  unfold MHn at h ⊢
  rw [hs.2.1 9 (by decide) (by decide) (by decide) (by decide) (by decide) (by decide)]
  rcases h with h | ⟨h, h2⟩
  · exact Or.inl h
  · exact Or.inr ⟨h, h2.moved (hs.1 38 (by decide) (by decide)) (hs.1 39 (by decide) (by decide)) (hs.1 40 (by decide) (by decide)) (hs.1 41 (by decide) (by decide)) (hs.1 42 (by decide) (by decide)) (hs.1 43 (by decide) (by decide))⟩
section
variable {g : aG} {d : Nat} {μ m0 : aM} {Q : aQ} {p B a b n pp w x : Int} {T : TDt} {V V' : Vw}
theorem c_M_can (hC : CM μ V T) (hS : SnOk (μ 52 0) (μ 54 0) (μ 31 0 35)) (h : ∀ μ', KFr μ μ' → Q (some (aI (canV T V (μ 52 0) (μ 53 0) (μ 54 0) (μ 31 0 35) p w))) μ') : Cal g (d + 10) m_M_can [aR 31 0, aI p, aI w] μ Q := by
  have hn := hC.2.1.1
  have hsz := hC.sz
  have h0 := h μ (KFr.rf hC.2.2.2.2)
  unfold canV at h h0
  refine T_M_can (k1 := fun z => ?_) (k2 := fun z1 z2 => ?_) (k3 := fun _ z => ?_)
  · rw [if_neg (by omega)] at h0; exact h0
  · rw [if_pos (by omega)] at h
    have hb : μ 33 0 p = vv V p := by rw [← hC.1]; exact (vv_M (by omega) (by omega)).symm
    refine loopR (n := 10) (fun k (y : aM × Int × Int) => Rn g (d + 9) m_M_can 38 [some (aR 31 0), some (aI p), some (aI w), some (aI (μ 33 0 p)), some (aI y.2.1), some (aI y.2.2), some (aI (9 - k))] [] y.1 Q) (fun k y => (YFr p μ y.1 ∧ y.1 31 0 2 = μ 31 0 2 ∧ y.1 31 0 25 = -1 ∧ putN (vM y.1) p (vv V p) = V ∧ ∀ z, putN (vM y.1) p z = putN V p z) ∧ y.2 = cntF (canP T V p (μ 52 0) (μ 53 0) (μ 54 0) (μ 31 0 35)) (fun k => 9 - k) (-5) k) ?_ ?_ 0 (μ, 0, -5) (by omega) (by omega) ⟨⟨⟨fun _ _ _ => rfl, fun _ _ _ _ _ _ _ => rfl, fun _ _ _ => rfl⟩, rfl, hC.2.2.2.2, by rw [← hC.1]; exact putN_id, fun z => by rw [hC.1]⟩, rfl⟩
    · rintro k ⟨m, y1, y2⟩ k0 hk ⟨⟨hx, h2, h5, hv, hvz⟩, hy⟩ ih
      dsimp only at hx h2 h5 hv hvz hy ih ⊢
      have hst := cnt_s (P := canP T V p (μ 52 0) (μ 53 0) (μ 54 0) (μ 31 0 35)) (v := fun k => 9 - k) (nv := -5) k0
      have hrg := cnt_rng (P := canP T V p (μ 52 0) (μ 53 0) (μ 54 0) (μ 31 0 35)) (v := fun k => 9 - k) (nv := -5) k k0
      rw [← hy] at hst hrg
      dsimp only at hst hrg
      have hx2 : YFr p μ (up m 33 0 p (9 - k)) := hx.n
      have e35 : (up m 33 0 p (9 - k)) 31 0 35 = μ 31 0 35 := hx2.2.1 35 (by decide) (by decide) (by decide) (by decide) (by decide) (by decide)
      have e52 : (up m 33 0 p (9 - k)) 52 = μ 52 := hx2.1 52 (by decide) (by decide)
      have e53 : (up m 33 0 p (9 - k)) 53 = μ 53 := hx2.1 53 (by decide) (by decide)
      have e54 : (up m 33 0 p (9 - k)) 54 = μ 54 := hx2.1 54 (by decide) (by decide)
      have hC2 : CM (up m 33 0 p (9 - k)) (putN V p (9 - k)) T := ⟨by rw [vM_putN, hvz], putN_ok hC.2.1 (by omega), hC.2.2.1, hC.2.2.2.1.y hx2, by rw [up_k (by decide)]; exact h5⟩
      refine B_M_can_38 (k1 := fun z => absurd z (by omega)) (k2 := fun z => absurd z (by omega)) (k3 := fun _ => ?_)
      refine c_M_isSeen hC2 (by rw [e52, e54, e35]; exact hS) (fun m2 hk2 => ?_)
      rw [e52, e53, e54, e35]
      have nx : YFr p μ m2 ∧ m2 31 0 2 = μ 31 0 2 ∧ m2 31 0 25 = -1 ∧ putN (vM m2) p (vv V p) = V ∧ ∀ z, putN (vM m2) p z = putN V p z := ⟨hx2.x hk2.1, by rw [hk2.2.2.1, up_k (by decide)]; exact h2, hk2.2.2.2, by rw [hk2.2.1, vM_putN, putN_putN]; exact hv, fun z => by rw [hk2.2.1, vM_putN, putN_putN]; exact hvz z⟩
      refine B_M_can_55 (k1 := fun z => ?_) (k2 := fun z => ?_)
      · have hb : canP T V p (μ 52 0) (μ 53 0) (μ 54 0) (μ 31 0 35) k = true := b2_ne z
        have := ih (m2, y1 + 1, 9 - k) ⟨nx, by rw [hst, if_pos hb]⟩
        rw [show 9 - (k + 1) = 9 - k + -1 by omega] at this; exact this
      · have hb : canP T V p (μ 52 0) (μ 53 0) (μ 54 0) (μ 31 0 35) k = false := b2_eq z
        have := ih (m2, y1, y2) ⟨nx, by rw [hst, hb]; rfl⟩
        rw [show 9 - (k + 1) = 9 - k + -1 by omega] at this; exact this
    · rintro ⟨m, y1, y2⟩ ⟨⟨hx, h2, h5, hv, hvz⟩, hy⟩
      dsimp only at hx h2 h5 hv hvz hy ⊢
      have hx' := hx.n (y := μ 33 0 p)
      have e33 : (up m 33 0 p (μ 33 0 p)) 33 = μ 33 := by
        funext i j
        by_cases e : i = 0 ∧ j = p
        · rw [e.1, e.2, up_same]
        · exact hx'.2.2 i j e
      have hk : KFr μ (up m 33 0 p (μ 33 0 p)) := ⟨⟨fun k hk => by
        by_cases e : k = 33
        · rw [e]; exact e33
        · exact hx'.1 k e hk, hx'.2.1⟩, by rw [vM_putN, hb, hv, hC.1], by rw [up_k (by decide)]; exact h2, by rw [up_k (by decide)]; exact h5⟩
      have := h _ hk
      rw [← hy] at this
      refine B_M_can_38 (k1 := fun _ z => ?_) (k2 := fun _ z => ?_) (k3 := fun z => absurd z (by decide))
      · rw [if_neg z] at this; exact this
      · rw [if_pos z] at this; exact this
  · rw [if_neg (by omega)] at h0; exact h0
end
