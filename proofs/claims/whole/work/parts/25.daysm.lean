/-! The reference goes days. -/
def MFr (μ μ' : aM) : Prop := Fr [31, 35, 46, 47, 48, 49] μ μ' ∧ ∀ j, j ≠ 27 → j ≠ 1 → μ' 31 0 j = μ 31 0 j
theorem MFr.rf {μ : aM} : MFr μ μ := ⟨Fr.rf, fun _ _ _ => rfl⟩
theorem MFr.tr {μ μ₁ μ₂ : aM} (h : MFr μ μ₁) (h2 : MFr μ₁ μ₂) : MFr μ μ₂ := ⟨h.1.tr h2.1, fun j h1 h27 => (h2.2 j h1 h27).trans (h.2 j h1 h27)⟩
theorem S46.M {μ μ' : aM} (h : S46 μ μ') : MFr μ μ' := ⟨fun k hk => h k (by intro e; subst e; exact hk (by decide)), fun j _ _ => by rw [h 31 (by decide)]⟩
theorem MHn.fr {μ μ' : aM} {T : TDt} (hs : MFr μ μ') (h : MHn μ T) : MHn μ' T := by
  unfold MHn at h ⊢
  rw [hs.2 9 (by decide) (by decide)]
  rcases h with h | ⟨h, h2⟩
  · exact Or.inl h
  · exact Or.inr ⟨h, h2.moved (hs.1 38 (by decide)) (hs.1 39 (by decide)) (hs.1 40 (by decide)) (hs.1 41 (by decide)) (hs.1 42 (by decide)) (hs.1 43 (by decide))⟩
theorem MFr.u {μ m : aM} {k : Nat} {i j x : Int} (h : MFr μ m) (h31 : k ≠ 31 := by decide) (hk : k ∈ [31, 35, 46, 47, 48, 49] := by decide) : MFr μ (up m k i j x) := ⟨h.1.up hk, fun j' a b => (up_other (Ne.symm h31)).trans (h.2 j' a b)⟩
theorem MFr.u1 {μ m : aM} {x : Int} (h : MFr μ m) : MFr μ (up m 31 0 1 x) := ⟨h.1.up, fun j' a b => (up_ne b).trans (h.2 j' a b)⟩
theorem MFr.u27 {μ m : aM} {x : Int} (h : MFr μ m) : MFr μ (up m 31 0 27 x) := ⟨h.1.up, fun j' a b => (up_ne a).trans (h.2 j' a b)⟩
theorem vM_setO {μ : aM} {p x : Int} : vM (up μ 35 0 p x) = setO (vM μ) (t6 (pu (μ 35 0) p x)) := by
  unfold vM setO
  rw [up_k (by decide), up_k (by decide), up_k (by decide), up_k (by decide), up_row, up_k (by decide)]
theorem vM_27 {μ : aM} {x : Int} : vM (up μ 31 0 27 x) = vM μ := by
  unfold vM
  rw [up_ne (by decide), up_ne (by decide), up_ne (by decide), up_k (by decide), up_k (by decide), up_k (by decide), up_k (by decide), up_k (by decide)]
theorem vM_setD {μ : aM} {x : Int} : vM (up μ 31 0 1 x) = setD (vM μ) x := by
  unfold vM setD
  rw [up_ne (by decide), up_same, up_ne (by decide), up_k (by decide), up_k (by decide), up_k (by decide), up_k (by decide), up_k (by decide)]
theorem vM_u {μ : aM} {k : Nat} {i j x : Int} (h : k < 31 ∨ 36 < k) : vM (up μ k i j x) = vM μ := vM_cong (up_k (by omega)) (fun k' h1 h2 => up_k (by omega))
theorem vM_off {μ : aM} {V : Vw} {o : Int → Int} (h : vM μ = setO V (t6 o)) : t6 (μ 35 0) = t6 o := congrArg vo h
section
variable {g : aG} {d : Nat} {μ : aM} {Q : aQ} {p r B pp : Int} {T : TDt} {V : Vw}
theorem lagM_V (hVe : vM μ = V) (hp : 0 ≤ p ∧ p < 6) : lagM T pp μ p = lgV T pp V p := by
  subst hVe
  unfold lagM lgV factV
  rw [vk_M hp.1 hp.2, vv_M hp.1 hp.2, vu_M hp.1 hp.2, vo_M hp.1 hp.2]; rfl
theorem c_M_lagV (hT : MHn μ T) (hok : TDok T) (hVe : vM μ = V) (hV : VOk B V) (hB : B ≤ 1000000) (hpp : μ 31 0 25 = pp) (hp : 0 ≤ p ∧ p < 6) (h : ∀ μ', S46 μ μ' → Q (some (aI (lgV T pp V p))) μ') : Cal g (d + 4) m_M_lag [aR 31 0, aI p] μ Q :=
  c_M_lag hT hok (hVe ▸ hV) hB hp (fun μ' hs => by rw [hpp, lagM_V hVe hp]; exact h μ' hs)
theorem c_M_comes (hT : MHn μ T) (hok : TDok T) (hVe : vM μ = V) (hV : VOk B V) (hB : B ≤ 1000000) (hpp : μ 31 0 25 = pp) (hp : 0 ≤ p ∧ p < 6) (h : ∀ μ', S46 μ μ' → Q (some (aI (cmV T pp V p))) μ') : Cal g (d + 5) m_M_comes [aR 31 0, aI p] μ Q := by
  refine T_M_comes (k1 := c_M_lagV hT hok hVe hV hB hpp hp (fun m hs => ?_))
  have hl := lgV_rng hok (pp := pp) (p := p) (V := V)
  obtain ⟨a1, a2, a3, a4, a5⟩ := vokM_p (hVe ▸ hV) hp.1 hp.2
  have e35 : m 35 0 p = μ 35 0 p := by rw [hs 35 (by decide)]
  refine B_M_comes_11 (b3 := by rw [e35]; omega) (k1 := ?_)
  rw [e35]
  have := h m hs
  unfold cmV at this
  rw [← hVe, vu_M hp.1 hp.2, vo_M hp.1 hp.2, hVe] at this
  exact this
theorem c_M_isRinging (hT : MHn μ T) (hok : TDok T) (hVe : vM μ = V) (hV : VOk B V) (hB : B ≤ 1000000) (hpp : μ 31 0 25 = pp) (hp : 0 ≤ p ∧ p < 6) (h : ∀ μ', S46 μ μ' → Q (some (aI (bI (va V p = 0 ∧ 0 < lgV T pp V p)))) μ') : Cal g (d + 5) m_M_isRinging [aR 31 0, aI p] μ Q := by
  have ea : va V p = bI (b_and (b_shr (μ 31 0 2) p) 1 = 1) := by rw [← hVe]; exact va_M hp.1 hp.2
  refine T_M_isRinging (k1 := fun z => ?_) (k2 := fun z => c_M_lagV hT hok hVe hV hB hpp hp (fun m hs => B_M_isRinging_17 (k1 := fun z2 => ?_) (k2 := fun z2 => ?_)))
  · have := h μ S46.rf
    rw [bI_f (by rw [ea, bI_t z]; omega)] at this; exact this
  · have := h m hs
    rw [bI_f (by omega)] at this; exact this
  · have := h m hs
    rw [bI_t ⟨by rw [ea, bI_f z], z2⟩] at this; exact this
theorem c_M_rings (hT : MHn μ T) (hok : TDok T) (hVe : vM μ = V) (hV : VOk B V) (hB : B ≤ 1000000) (hpp : μ 31 0 25 = pp) (hp : 0 ≤ p ∧ p < 6) (h : ∀ μ', S46 μ μ' → Q (some (aI (rgV T pp V p))) μ') : Cal g (d + 6) m_M_rings [aR 31 0, aI p] μ Q := by
  have hn := hV.1
  have tT : ∀ {m : aM}, S46 μ m → MHn m T := fun hs => hT.s46 hs
  have tV : ∀ {m : aM}, S46 μ m → vM m = V := fun hs => hs.vM.trans hVe
  have tp : ∀ {m : aM}, S46 μ m → m 31 0 25 = pp := fun hs => by rw [hs 31 (by decide)]; exact hpp
  have tn : ∀ {m : aM}, S46 μ m → m 31 0 0 = vn V := fun hs => (congrArg vn (tV hs) : _)
  refine T_M_rings (k1 := c_M_isRinging hT hok hVe hV hB hpp hp (fun m0 hs0 => B_M_rings_5 (k1 := fun z => ?_) (k2 := fun z => ?_)))
  · have hr := bI_ne.mp z
    have hrv : rgV T pp V p = rsum (va V) (lgV T pp V) (cmV T pp V) (vn V) (cmV T pp V p) := if_pos hr
    rw [hrv] at h
    refine loopR (n := vn V) (fun q (x : Int × aM) => Rn g (d + 5) m_M_rings 14 [some (aR 31 0), some (aI p), some (aI x.1), some (aI q)] [] x.2 Q) (fun q x => S46 μ x.2 ∧ x.1 = rsum (va V) (lgV T pp V) (cmV T pp V) q (cmV T pp V p)) ?_ ?_ 0 (0, m0) (by omega) hn.1 ⟨hs0, rfl⟩
    · rintro q ⟨x, m⟩ h0 hq ⟨hs, hx⟩ ih
      dsimp only at hs hx ih ⊢
      have hq6 : 0 ≤ q ∧ q < 6 := ⟨h0, by omega⟩
      have e0 := tn hs
      have hb := rsum_rng (aw := va V) (lg := lgV T pp V) (cm := cmV T pp V) (mi := cmV T pp V p) (n := vn V) (fun _ _ _ => (lgV_rng hok).2) q h0 (by omega)
      rw [← hx] at hb
      have hst : rsum (va V) (lgV T pp V) (cmV T pp V) (q + 1) (cmV T pp V p) = if (va V q = 0 ∧ 0 < lgV T pp V q) ∧ cmV T pp V q = cmV T pp V p then x + lgV T pp V q else x := by rw [hx]; exact fI_s h0
      have hlq := lgV_rng hok (pp := pp) (p := q) (V := V)
      refine B_M_rings_14 (k1 := fun z => absurd z (by omega)) (k2 := fun _ => c_M_isRinging (tT hs) hok (tV hs) hV hB (tp hs) hq6 (fun m1 hs1 => ?_))
      have hs1 := hs.tr hs1
      refine B_M_rings_28 (k1 := fun z => ih (_, m1) ⟨hs1, ?_⟩) (k2 := fun z => c_M_comes (tT hs1) hok (tV hs1) hV hB (tp hs1) hq6 (fun m2 hs2 => ?_))
      · show x + 0 = _
        rw [hst, if_neg (fun w => bI_eq.mp z w.1)]; omega
      · have hs2 := hs1.tr hs2
        refine B_M_rings_36 (k1 := c_M_comes (tT hs2) hok (tV hs2) hV hB (tp hs2) hp (fun m3 hs3 => ?_))
        have hs3 := hs2.tr hs3
        refine B_M_rings_41 (k1 := fun z2 => ih (_, m3) ⟨hs3, ?_⟩) (k2 := fun z2 => c_M_lagV (tT hs3) hok (tV hs3) hV hB (tp hs3) hq6 (fun m4 hs4 => ?_))
        · show x + 0 = _
          rw [hst, if_neg (fun w => z2 w.2)]; omega
        · have hs4 := hs3.tr hs4
          refine B_M_rings_49 (k1 := ih (_, m4) ⟨hs4, ?_⟩)
          show x + lgV T pp V q = _
          rw [hst, if_pos ⟨bI_ne.mp z, z2⟩]
    · rintro ⟨x, m⟩ ⟨hs, hx⟩
      dsimp only at hs hx ⊢
      have e0 := tn hs
      refine B_M_rings_14 (k1 := fun _ => ?_) (k2 := fun z => absurd z (by omega))
      rw [hx]; exact h m hs
  · have hrv : rgV T pp V p = 0 := if_neg (bI_eq.mp z)
    rw [hrv] at h
    exact h m0 hs0
theorem c_M_lastOf {w s : Int} (hT : MHn μ T) (hok : TDok T) (h : Q (some (aI (fI (fun n c => if T.2.1 c = w then T.2.2.1 c else n) s T.1))) μ) : Cal g (d + 2) m_M_lastOf [aR 31 0, aI w, aI s] μ Q := by
  have hn : 0 ≤ T.1 ∧ T.1 ≤ 10 := hok.1
  rcases hT with ⟨h1, h2⟩ | ⟨h1, h2, h3⟩
  · rw [h2] at h
    refine T_M_lastOf (k1 := ?_)
    rw [if_pos (by omega)]
    have e : (if μ 31 0 9 < 0 then (0 : Int) else 10 * μ 31 0 9 + μ 38 0 (μ 31 0 9)) = 0 := if_pos (by omega)
    refine B_M_lastOf_8 (k1 := fun _ => h) (k2 := fun z => ?_) (k3 := fun z => ?_) (b3 := fun z => ?_)
    all_goals
      rw [e] at z
      exact absurd z (by omega)
  · generalize hth : μ 31 0 9 = th at *
    have ee : (if μ 31 0 9 < 0 then (0 : Int) else 10 * μ 31 0 9 + μ 38 0 (μ 31 0 9)) = 10 * th + T.1 := by rw [if_neg (by omega), hth, h2]
    refine T_M_lastOf (k1 := ?_)
    rw [show (if μ 31 0 9 < 0 then (0 : Int) else 10 * μ 31 0 9) = 10 * th by rw [if_neg (by omega), hth]]
    refine loopR (n := 10 * th + T.1) (fun c (x : Int) => Rn g (d + 1) m_M_lastOf 8 [some (aR 31 0), some (aI w), some (aI s), some (aI x), some (aI c)] [] μ Q) (fun c x => 10 * th ≤ c ∧ x = fI (fun n c => if T.2.1 c = w then T.2.2.1 c else n) s (c - 10 * th)) ?_ ?_ (10 * th) s (by omega) (by omega) ⟨Int.le_refl _, by rw [Int.sub_self]; rfl⟩
    · rintro c x h0 hc ⟨hc0, hx⟩ ih
      obtain ⟨m1, m2, m3⟩ := h3 (c - 10 * th) (by omega) (by omega)
      rw [show 10 * th + (c - 10 * th) = c by omega] at m1 m2
      have hst : fI (fun n c => if T.2.1 c = w then T.2.2.1 c else n) s (c + 1 - 10 * th) = if T.2.1 (c - 10 * th) = w then T.2.2.1 (c - 10 * th) else x := by
        rw [show c + 1 - 10 * th = (c - 10 * th) + 1 by omega, fI_s (by omega), hx]
      refine B_M_lastOf_8 (b2 := by rw [hth, h2]; omega) (k1 := fun z => absurd z (by omega)) (k2 := fun _ z => ih _ ⟨by omega, ?_⟩) (k3 := fun _ z => ih _ ⟨by omega, ?_⟩)
      · rw [hst, if_neg (by omega)]
      · rw [hst, if_pos (by omega), m2]
    · rintro x ⟨hc0, hx⟩
      rw [show 10 * th + T.1 - 10 * th = T.1 by omega] at hx
      refine B_M_lastOf_8 (b2 := by rw [hth, h2]; omega) (k1 := fun _ => ?_) (k2 := fun z => absurd z (by omega)) (k3 := fun z => absurd z (by omega))
      rw [hx]; exact h
end
