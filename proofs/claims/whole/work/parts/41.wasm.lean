section
variable {g : aG} {d : Nat} {μ m0 : aM} {Q : aQ} {p B a b n pp w x : Int} {T : TDt} {V V' : Vw}
theorem c_M_was (hC : CM μ V T) (hS : SnOk (μ 52 0) (μ 54 0) (μ 31 0 35)) (h : ∀ μ', KFr μ μ' → Q (some (aI (wasV T V (μ 52 0) (μ 53 0) (μ 54 0) (μ 31 0 35) p w))) μ') : Cal g (d + 10) m_M_was [aR 31 0, aI p, aI w] μ Q := by
  have hn := hC.2.1.1
  have hsz := hC.sz
  have h0 := h μ (KFr.rf hC.2.2.2.2)
  unfold wasV at h h0
  refine T_M_was (k1 := fun z => ?_) (k2 := fun z1 z2 => ?_) (k3 := fun _ z => ?_)
  · rw [if_neg (by omega)] at h0; exact h0
  · rw [if_pos (by omega)] at h
    have hb : μ 35 0 p = vo V p := by rw [← hC.1]; exact (vo_M (by omega) (by omega)).symm
    refine loopR (n := 41) (fun k (y : aM × Int × Int) => Rn g (d + 9) m_M_was 41 [some (aR 31 0), some (aI p), some (aI w), some (aI (μ 35 0 p)), some (aI y.2.1), some (aI y.2.2), some (aI (20 - k))] [] y.1 Q) (fun k y => (XFr μ y.1 ∧ y.1 31 0 2 = μ 31 0 2 ∧ y.1 31 0 25 = -1 ∧ putO (vM y.1) p (vo V p) = V ∧ ∀ z, putO (vM y.1) p z = putO V p z) ∧ y.2 = cntF (wasP T V p (μ 52 0) (μ 53 0) (μ 54 0) (μ 31 0 35)) (fun k => 20 - k) (-10005) k) ?_ ?_ 0 (μ, 0, -10005) (by omega) (by omega) ⟨⟨XFr.rf, rfl, hC.2.2.2.2, by rw [← hC.1]; exact putO_id, fun z => by rw [hC.1]⟩, rfl⟩
    · rintro k ⟨m, y1, y2⟩ k0 hk ⟨⟨hx, h2, h5, hv, hvz⟩, hy⟩ ih
      dsimp only at hx h2 h5 hv hvz hy ih ⊢
      have hst := cnt_s (P := wasP T V p (μ 52 0) (μ 53 0) (μ 54 0) (μ 31 0 35)) (v := fun k => 20 - k) (nv := -10005) k0
      have hrg := cnt_rng (P := wasP T V p (μ 52 0) (μ 53 0) (μ 54 0) (μ 31 0 35)) (v := fun k => 20 - k) (nv := -10005) k k0
      rw [← hy] at hst hrg
      dsimp only at hst hrg
      have hx2 : XFr μ (up m 35 0 p (20 - k)) := hx.u
      have e35 : (up m 35 0 p (20 - k)) 31 0 35 = μ 31 0 35 := hx2.2 35 (by decide) (by decide) (by decide) (by decide) (by decide) (by decide)
      have e52 : (up m 35 0 p (20 - k)) 52 = μ 52 := hx2.1 52 (by decide)
      have e53 : (up m 35 0 p (20 - k)) 53 = μ 53 := hx2.1 53 (by decide)
      have e54 : (up m 35 0 p (20 - k)) 54 = μ 54 := hx2.1 54 (by decide)
      have hC2 : CM (up m 35 0 p (20 - k)) (putO V p (20 - k)) T := ⟨by rw [vM_putO, hvz], putO_ok hC.2.1 (by omega), hC.2.2.1, hC.2.2.2.1.x hx2, by rw [up_k (by decide)]; exact h5⟩
      refine B_M_was_41 (k1 := fun z => absurd z (by omega)) (k2 := fun z => absurd z (by omega)) (k3 := fun _ => ?_)
      refine c_M_isSeen hC2 (by rw [e52, e54, e35]; exact hS) (fun m2 hk2 => ?_)
      rw [e52, e53, e54, e35]
      have nx : XFr μ m2 ∧ m2 31 0 2 = μ 31 0 2 ∧ m2 31 0 25 = -1 ∧ putO (vM m2) p (vo V p) = V ∧ ∀ z, putO (vM m2) p z = putO V p z := ⟨hx2.tr hk2.1, by rw [hk2.2.2.1, up_k (by decide)]; exact h2, hk2.2.2.2, by rw [hk2.2.1, vM_putO, putO_putO]; exact hv, fun z => by rw [hk2.2.1, vM_putO, putO_putO]; exact hvz z⟩
      refine B_M_was_60 (k1 := fun z => ?_) (k2 := fun z => ?_)
      · have hb : wasP T V p (μ 52 0) (μ 53 0) (μ 54 0) (μ 31 0 35) k = true := b2_ne z
        have := ih (m2, y1 + 1, 20 - k) ⟨nx, by rw [hst, if_pos hb]⟩
        rw [show 20 - (k + 1) = 20 - k + -1 by omega] at this; exact this
      · have hb : wasP T V p (μ 52 0) (μ 53 0) (μ 54 0) (μ 31 0 35) k = false := b2_eq z
        have := ih (m2, y1, y2) ⟨nx, by rw [hst, hb]; rfl⟩
        rw [show 20 - (k + 1) = 20 - k + -1 by omega] at this; exact this
    · rintro ⟨m, y1, y2⟩ ⟨⟨hx, h2, h5, hv, hvz⟩, hy⟩
      dsimp only at hx h2 h5 hv hvz hy ⊢
      have hk : KFr μ (up m 35 0 p (μ 35 0 p)) := ⟨hx.u, by rw [vM_putO, hb, hv, hC.1], by rw [up_k (by decide)]; exact h2, by rw [up_k (by decide)]; exact h5⟩
      have := h _ hk
      rw [← hy] at this
      refine B_M_was_41 (k1 := fun _ z => ?_) (k2 := fun _ z => ?_) (k3 := fun z => absurd z (by decide))
      · rw [if_neg z] at this; exact this
      · rw [if_pos z] at this; exact this
  · rw [if_neg (by omega)] at h0; exact h0
end
