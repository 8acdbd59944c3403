/-! The reference: a DAY, some DAYS. -/
theorem RFr.rf {μ : aM} : RFr μ μ := ⟨MFr.rf, rfl, rfl, rfl⟩
theorem RFr.tr {μ μ₁ μ₂ : aM} (h : RFr μ μ₁) (h2 : RFr μ₁ μ₂) : RFr μ μ₂ := ⟨h.1.tr h2.1, h2.2.1.trans h.2.1, h2.2.2.1.trans h.2.2.1, h2.2.2.2.trans h.2.2.2⟩
theorem SL_nin {cm : Int → Int} {r : Int} {l : List Int} (h : SL cm (r :: l)) : r ∉ l := fun hin => by
  have := h.1 r hin
  omega
section
variable {g : aG} {d : Nat} {μ : aM} {Q : aQ} {p r B pp : Int} {T : TDt} {V : Vw} {o rg cm : Int → Int}
theorem ring_line (hok : TDok T) (hV : VOk B V) (hB : B ≤ 1000000) : ∀ (l : List Int) (s : (Int → Int) × Bool) (m : aM), MHn m T → SL cm l → (∀ q ∈ l, 0 ≤ q ∧ q < vn V) → (∀ q, 0 ≤ q → q < vn V → (q ∈ l ↔ 0 < m 48 0 q ∧ m 49 0 q = 0)) → (∀ q, 0 ≤ q → q < vn V → m 47 0 q = cm q) → (∀ q, 0 ≤ q → q < vn V → m 48 0 q = rg q) → vM m = setO V (t6 s.1) → m 31 0 27 = b2 s.2 → oOk s.1 → (∀ m', RFr m m' → vM m' = setO V (t6 (l.foldl (hearV (loudT T) V rg) s).1) → m' 31 0 27 = b2 (l.foldl (hearV (loudT T) V rg) s).2 → Rn g (d + 6) m_M_goDay 74 [some (aR 31 0), some (aI (-1)), some (aI 0)] [] m' Q) → Rn g (d + 6) m_M_goDay 55 [some (aR 31 0), some (aI (l.headD (-1))), none] [] m Q := by
  have hn := hV.1
  intro l
  induction l with
  | nil =>
    intro s m _ _ _ _ _ _ hm hc _ h
    exact B_M_goDay_55 (k1 := fun _ => h m RFr.rf hm hc) (k2 := fun z => absurd z (by decide))
  | cons r l ih =>
    intro s m hT hs hl hr hcm hrg hm hc ho h
    have hrr := hl r List.mem_cons_self
    show Rn g (d + 6) m_M_goDay 55 [some (aR 31 0), some (aI r), none] [] m Q
    refine B_M_goDay_55 (k1 := fun z => absurd z (by omega)) (k2 := fun _ => ?_)
    refine Cal_le (show 4 ≤ d + 6 by omega) (c_M_ringsOne (d := 0) hT hok hV hB ho hm hc ⟨hrr.1, by omega⟩ (hrg r hrr.1 hrr.2) (fun m' hf h49 hm' hc' => ?_))
    have hoo : oOk (hearV (loudT T) V rg s r).1 := hearF_ok ho hn.2 ⟨hrr.1, by omega⟩ (vn V) hn.1 (Int.le_refl _)
    have hl' : ∀ q ∈ l, 0 ≤ q ∧ q < vn V := fun q hq => hl q (List.mem_cons_of_mem _ hq)
    have hr' : ∀ q, 0 ≤ q → q < vn V → (q ∈ l ↔ 0 < m' 48 0 q ∧ m' 49 0 q = 0) := fun q q0 q1 => by
      rw [hf.2.2.1, h49]
      unfold pu
      have h1 := hr q q0 q1
      by_cases e : q = r
      · rw [if_pos e]
        exact ⟨fun z => absurd (e ▸ z) (SL_nin hs), fun z => absurd z.2 (by decide)⟩
      · rw [if_neg e, ← h1]
        exact ⟨fun z => List.mem_cons_of_mem _ z, fun z => (List.mem_cons.mp z).resolve_left e⟩
    have hcm' : ∀ q, 0 ≤ q → q < vn V → m' 47 0 q = cm q := fun q q0 q1 => by rw [hf.2.1]; exact hcm q q0 q1
    refine B_M_goDay_64 (k1 := ?_)
    refine Cal_le (show 1 ≤ d + 6 by omega) (c_M_nextRinger (d := 0) (l := l) (cm := cm) (n := vn V) (congrArg vn hm' : _) hn hr' hl' hs.2 hcm' ?_)
    refine B_M_goDay_68 (k1 := ?_)
    exact ih (hearV (loudT T) V rg s r) m' (hT.fr hf.1) hs.2 hl' hr' hcm' (fun q q0 q1 => by rw [hf.2.2.1]; exact hrg q q0 q1) hm' hc' hoo (fun m'' hf' h1 h2 => h m'' (hf.tr hf') h1 h2)
theorem c_M_goDay (hT : MHn μ T) (hok : TDok T) (hVe : vM μ = V) (hV : VOk B V) (hB : B ≤ 1000000) (hpp : μ 31 0 25 = pp) (h : ∀ μ', MFr μ μ' → vM μ' = dayV T pp V → μ' 31 0 27 = b2 (dayC T pp V) → Q none μ') : Cal g (d + 7) m_M_goDay [aR 31 0] μ Q := by
  have hn := hV.1
  refine T_M_goDay (k1 := loopR (n := vn V) (fun p (m : aM) => Rn g (d + 6) m_M_goDay 7 [some (aR 31 0), some (aI p), none] [] m Q) (fun p m => MFr μ m ∧ vM m = V ∧ m 31 0 27 = 0 ∧ ∀ q, 0 ≤ q → q < p → m 47 0 q = cmV T pp V q ∧ m 48 0 q = rgV T pp V q ∧ m 49 0 q = 0) ?_ ?_ 0 (up μ 31 0 27 0) (by omega) hn.1 ⟨MFr.rf.u27, vM_27.trans hVe, up_same, fun q h0 h1 => absurd h1 (by omega)⟩)
  · rintro p m h0 hp ⟨hf, hm, hc, hq⟩ ih
    have e2 : m 31 0 0 = vn V := (congrArg vn hm : _)
    have hp6 : 0 ≤ p ∧ p < 6 := ⟨h0, by omega⟩
    refine B_M_goDay_7 (k1 := fun z => absurd z (by omega)) (k2 := fun _ => ?_)
    refine Cal_le (show 5 ≤ d + 6 by omega) (c_M_comes (d := 0) (hT.fr hf) hok hm hV hB ((hf.2 25 (by decide) (by decide)).trans hpp) hp6 (fun m1 hs1 => ?_))
    refine B_M_goDay_25 (k1 := ?_)
    have hf1 : MFr μ (up m1 47 0 p (cmV T pp V p)) := (hf.tr hs1.M).u
    have hm1 : vM (up m1 47 0 p (cmV T pp V p)) = V := by rw [vM_u (by omega), hs1.vM]; exact hm
    refine c_M_rings (hT.fr hf1) hok hm1 hV hB ((hf1.2 25 (by decide) (by decide)).trans hpp) hp6 (fun m2 hs2 => ?_)
    refine B_M_goDay_36 (k1 := ih _ ⟨((hf1.tr hs2.M).u).u, ?_, ?_, fun q q0 q1 => ?_⟩)
    · rw [vM_u (by omega), vM_u (by omega), hs2.vM]; exact hm1
    · rw [up_k (by decide), up_k (by decide), hs2 31 (by decide), up_k (by decide), hs1 31 (by decide)]; exact hc
    · by_cases e : q = p
      · refine ⟨?_, ?_, ?_⟩
        · rw [up_k (by decide), up_k (by decide), hs2 47 (by decide), e, up_same]
        · rw [up_k (by decide), e, up_same]
        · rw [e, up_same]
      · obtain ⟨h1, h2, h3⟩ := hq q q0 (by omega)
        refine ⟨?_, ?_, ?_⟩
        · rw [up_k (by decide), up_k (by decide), hs2 47 (by decide), up_ne e, hs1 47 (by decide)]; exact h1
        · rw [up_k (by decide), up_ne e, hs2 48 (by decide), up_k (by decide), hs1 48 (by decide)]; exact h2
        · rw [up_ne e, up_k (by decide), hs2 49 (by decide), up_k (by decide), hs1 49 (by decide)]; exact h3
  · rintro m ⟨hf, hm, hc, hq⟩
    have e2 : m 31 0 0 = vn V := (congrArg vn hm : _)
    have hord := ordL_spec (rg := rgV T pp V) (cm := cmV T pp V) (n := vn V) (vn V) hn.1 (Int.le_refl _)
    have hl : ∀ q ∈ ordL (rgV T pp V) (cmV T pp V) (vn V), 0 ≤ q ∧ q < vn V := fun q hq => ((hord.2 q).mp hq).1
    have hr : ∀ q, 0 ≤ q → q < vn V → (q ∈ ordL (rgV T pp V) (cmV T pp V) (vn V) ↔ 0 < m 48 0 q ∧ m 49 0 q = 0) := fun q q0 q1 => by
      obtain ⟨h1, h2, h3⟩ := hq q q0 q1
      rw [hord.2 q, h2, h3]
      exact ⟨fun z => ⟨z.2, rfl⟩, fun z => ⟨⟨q0, q1⟩, z.1⟩⟩
    have hcm : ∀ q, 0 ≤ q → q < vn V → m 47 0 q = cmV T pp V q := fun q q0 q1 => (hq q q0 q1).1
    have hm0 : vM m = setO V (t6 (vo V)) := by
      rw [hm, show t6 (vo V) = vo V by rw [← hVe]; exact t6_t6]; rfl
    refine B_M_goDay_7 (k1 := fun _ => ?_) (k2 := fun z => absurd z (by omega))
    refine Cal_le (show 1 ≤ d + 6 by omega) (c_M_nextRinger (d := 0) e2 hn hr hl hord.1 hcm ?_)
    refine B_M_goDay_54 (k1 := ?_)
    refine ring_line (rg := rgV T pp V) hok hV hB (ordL (rgV T pp V) (cmV T pp V) (vn V)) (vo V, false) m (hT.fr hf) hord.1 hl hr hcm (fun q q0 q1 => (hq q q0 q1).2.1) hm0 (by rw [hc]; rfl) (vok_oOk hV) (fun m4 hf4 hm4 hc4 => ?_)
    have hoO : oOk (dayO T pp V).1 := dayO_ok hV
    have hfr := fastT_rng hok
    refine loopR (n := vn V) (fun p (m : aM) => Rn g (d + 6) m_M_goDay 74 [some (aR 31 0), some (aI (-1)), some (aI p)] [] m Q) (fun p m => MFr μ m ∧ vM m = setO V (t6 (fun q => if q < p then clp 999 ((dayO T pp V).1 q + fastT T) else (dayO T pp V).1 q)) ∧ m 31 0 27 = b2 (dayC T pp V)) ?_ ?_ 0 m4 (by omega) hn.1 ⟨hf.tr hf4.1, ?_, hc4⟩
    · rintro p m h0 hp ⟨hf, hm, hc⟩ ih
      have e2 : m 31 0 0 = vn V := (congrArg vn hm : _)
      have e6 : m 35 0 p = (dayO T pp V).1 p := (t6_at (vM_off hm) h0 (by omega)).trans (if_neg (by omega))
      have hop := hoO p h0 (by omega)
      refine B_M_goDay_74 (k1 := fun z => absurd z (by omega)) (k2 := fun _ => ?_) (b1 := fun z => absurd z (by omega))
      refine Cal_le (show 2 ≤ d + 6 by omega) (c_M_lastOf (d := 0) (hT.fr hf) hok ?_)
      rw [e6]
      have hfr' : 0 ≤ fI (fun n c => if T.2.1 c = 2 then T.2.2.1 c else n) 0 T.1 ∧ fI (fun n c => if T.2.1 c = 2 then T.2.2.1 c else n) 0 T.1 ≤ 99 := hfr
      refine B_M_goDay_100 (k1 := ih _ ⟨hf.u, ?_, by rw [up_k (by decide)]; exact hc⟩)
      rw [vM_setO, hm, setO_setO]
      refine congrArg (setO V) ?_
      rw [t6_pu (vM_off hm)]
      refine t6_ext fun q q0 q6 => ?_
      unfold pu
      dsimp only
      by_cases hq : q = p
      · rw [if_pos hq, if_pos (by omega), hq]; rfl
      · rw [if_neg hq]
        by_cases hq2 : q < p
        · rw [if_pos hq2, if_pos (by omega)]
        · rw [if_neg hq2, if_neg (by omega)]
    · rintro m ⟨hf, hm, hc⟩
      have e2 : m 31 0 0 = vn V := (congrArg vn hm : _)
      have e21 : m 31 0 1 = vd V := (congrArg vd hm : _)
      have hvd := hV.2.1
      refine B_M_goDay_74 (k1 := fun _ => h _ hf.u1 ?_ ?_) (k2 := fun z => absurd z (by omega))
      · rw [vM_setD, hm, e21]; rfl
      · rw [up_ne (by decide)]; exact hc
    · rw [hm4]
      refine congrArg (setO V) (t6_ext fun q q0 q6 => ?_)
      rw [if_neg (by omega)]; rfl
theorem c_M_goDays {n : Int} (hn0 : 0 ≤ n ∧ n < 2147483647) (hT : MHn μ T) (hok : TDok T) (hVe : vM μ = V) (hV : VOk B V) (hB : B + n ≤ 1000000) (hpp : μ 31 0 25 = pp) (h : ∀ μ', MFr μ μ' → vM μ' = daysV T pp V n → Q none μ') : Cal g (d + 8) m_M_goDays [aR 31 0, aI n] μ Q := by
  refine T_M_goDays (k1 := loopR (n := n) (fun p (m : aM) => Rn g (d + 7) m_M_goDays 2 [some (aR 31 0), some (aI n), some (aI p)] [] m Q) (fun p m => MFr μ m ∧ vM m = daysV T pp V p) ?_ ?_ 0 μ (by omega) hn0.1 ⟨MFr.rf, hVe⟩)
  · rintro p m h0 hp ⟨hf, hm⟩ ih
    refine B_M_goDays_2 (k1 := fun z => absurd z (by omega)) (k2 := fun _ => ?_)
    refine c_M_goDay (B := B + p) (hT.fr hf) hok hm (daysV_ok hV p h0) (by omega) ((hf.2 25 (by decide) (by decide)).trans hpp) (fun m' hf' hm' _ => ?_)
    refine B_M_goDays_11 (k1 := ih m' ⟨hf.tr hf', ?_⟩)
    rw [hm', daysV_s h0]
  · rintro m ⟨hf, hm⟩
    exact B_M_goDays_2 (k1 := fun _ => h m hf hm) (k2 := fun z => absurd z (by omega))
end
