/-! The class: a DAY, some DAYS. -/
theorem vC_setD {μ : aM} {a x : Int} : vC (up μ 2 a 1 x) a = setD (vC μ a) x := by
  unfold vC setD
  rw [up_ne (by decide), up_same, up_k (by decide), up_k (by decide), up_k (by decide), up_k (by decide), up_k (by decide), up_k (by decide)]
theorem last_rng {T : TDt} (hT : TDok T) {w s : Int} (hs : 0 ≤ s ∧ s ≤ 99) : ∀ c, 0 ≤ c → c ≤ T.1 → 0 ≤ fI (fun n c => if T.2.1 c = w then T.2.2.1 c else n) s c ∧ fI (fun n c => if T.2.1 c = w then T.2.2.1 c else n) s c ≤ 99 := by
  intro c h0 hc
  obtain ⟨k, rfl⟩ : ∃ k : Nat, c = (k : Int) := ⟨c.toNat, by omega⟩
  induction k with
  | zero => exact hs
  | succ k ih =>
    have := ih (by omega) (by omega)
    have h9 := (hT.2 (k : Int) (by omega) (by omega)).2.1
    rw [show ((k + 1 : Nat) : Int) = (k : Int) + 1 by omega, fI_s (by omega)]
    split
    · exact h9
    · exact this
theorem fastT_rng {T : TDt} (hT : TDok T) : 0 ≤ fastT T ∧ fastT T ≤ 99 := last_rng hT (by omega) T.1 hT.1.1 (Int.le_refl _)
theorem loudT_rng {T : TDt} (hT : TDok T) : 0 ≤ loudT T ∧ loudT T ≤ 99 := last_rng hT (by omega) T.1 hT.1.1 (Int.le_refl _)
def DFr (a : Int) (μ μ' : aM) : Prop := Fr [2, 6, 21, 22, 23, 24, 25] μ μ' ∧ (∀ b, b ≠ a → μ' 6 b = μ 6 b ∧ μ' 2 b = μ 2 b) ∧ μ' 21 0 5 = μ 21 0 5
theorem DFr.rf {a : Int} {μ : aM} : DFr a μ μ := ⟨Fr.rf, fun _ _ => ⟨rfl, rfl⟩, rfl⟩
theorem DFr.tr {a : Int} {μ μ₁ μ₂ : aM} (h : DFr a μ μ₁) (h2 : DFr a μ₁ μ₂) : DFr a μ μ₂ := ⟨h.1.tr h2.1, fun b hb => ⟨((h2.2.1 b hb).1).trans (h.2.1 b hb).1, ((h2.2.1 b hb).2).trans (h.2.1 b hb).2⟩, h2.2.2.trans h.2.2⟩
theorem HFr.D {a : Int} {μ μ' : aM} (h : HFr a μ μ') : DFr a μ μ' := ⟨h.1.le, fun b hb => ⟨h.2.1 b hb, by rw [h.1 2 (by decide)]⟩, h.2.2.2⟩
section
variable {g : aG} {d : Nat} {μ : aM} {Q : aQ} {p B t a r pp : Int} {T : TDt} {V : Vw} {o rg : Int → Int} {loud : Int}
theorem hear_line (hV : VOk B V) (hB : B ≤ 1000000) (hl : loud = loudT T) : ∀ (l : List Int) (k : Nat) (s : (Int → Int) × Bool) (m : aM), arrIs (m 25 0) k l → m 21 0 4 = k + l.length → vC m a = setO V (t6 s.1) → m 21 0 6 = b2 s.2 → oOk s.1 → (∀ r ∈ l, (0 ≤ r ∧ r < 6) ∧ m 24 0 r = rg r) → m 14 t 3 = loud → k + l.length ≤ 6 → (∀ m', HFr a m m' → vC m' a = setO V (t6 (l.foldl (hearV loud V rg) s).1) → m' 21 0 6 = b2 (l.foldl (hearV loud V rg) s).2 → Rn g (d + 4) m_Mo_goDay 46 [some (aR 21 0), some (aR 2 a), some (aR 14 t), some (aI 0)] [] m' Q) → Rn g (d + 4) m_Mo_goDay 18 [some (aR 21 0), some (aR 2 a), some (aR 14 t), some (aI k)] [] m Q := by
  intro l
  induction l with
  | nil =>
    intro k s m _ h4 hm hc _ _ _ _ h
    have h4 : m 21 0 4 = (k : Int) := by simpa using h4
    exact B_Mo_goDay_18 (k1 := fun _ => h m HFr.rf hm hc) (k2 := fun z => absurd z (by omega))
  | cons r l ih =>
    intro k s m ha h4 hm hc ho hr h3 h6 h
    have h4 : m 21 0 4 = (k : Int) + ((l.length : Int) + 1) := by simpa using h4
    have h6 : k + (l.length + 1) ≤ 6 := by simpa using h6
    have hrr := hr r List.mem_cons_self
    refine B_Mo_goDay_18 (k1 := fun z => absurd z (by omega)) (k2 := fun _ => ?_)
    rw [ha.1]
    refine Cal_le (show 2 ≤ d + 4 by omega) (c_Mo_hear (d := 0) hV hB ho hm hc hrr.1 hrr.2 h3 (fun m' hf hm' hc' => ?_))
    refine B_Mo_goDay_38 (k1 := ?_)
    have hoo : oOk (hearV loud V rg s r).1 := hearF_ok ho hV.1.2 hrr.1 (vn V) hV.1.1 (Int.le_refl _)
    have := ih (k + 1) (hearV loud V rg s r) m' (by rw [hf.1 25 (by decide), show ((k + 1 : Nat) : Int) = (k : Int) + 1 by omega]; exact ha.2) (by rw [hf.2.2.1, h4]; omega) hm' hc' hoo (fun r' h' => ⟨(hr r' (List.mem_cons_of_mem _ h')).1, by rw [hf.1 24 (by decide)]; exact (hr r' (List.mem_cons_of_mem _ h')).2⟩) (by rw [hf.1 14 (by decide)]; exact h3) (by omega) (fun m'' hf' h1 h2 => h m'' (hf.tr hf') h1 h2)
    exact this
theorem c_Mo_goDay (hT : CTn μ t T) (hok : TDok T) (hVe : vC μ a = V) (hV : VOk B V) (hB : B ≤ 1000000) (hpp : μ 21 0 5 = pp) (h : ∀ μ', DFr a μ μ' → vC μ' a = dayV T pp V → μ' 21 0 6 = b2 (dayC T pp V) → Q none μ') : Cal g (d + 5) m_Mo_goDay [aR 21 0, aR 2 a, aR 14 t] μ Q := by
  have hn := hV.1
  refine T_Mo_goDay (k1 := ?_)
  refine c_Mo_look hT hok hVe hV hB hpp (fun m1 hf1 hcr => ?_)
  refine B_Mo_goDay_6 (k1 := ?_)
  have e2 : m1 2 a 0 = vn V := by rw [hf1 2 (by decide), ← hVe]; rfl
  refine Cal_le (show 1 ≤ d + 4 by omega) (c_Mo_line (d := 0) (rg := rgV T pp V) (cm := cmV T pp V) e2 hn (fun q q0 q1 => (hcr q q0 q1).1) (fun q q0 q1 => (hcr q q0 q1).2.1) (fun m2 hf2 h25 h24 ha => ?_))
  refine B_Mo_goDay_11 (k1 := ?_)
  have hord := ordL_spec (rg := rgV T pp V) (cm := cmV T pp V) (n := vn V) (vn V) hn.1 (Int.le_refl _)
  have hlen := ordL_len (rg := rgV T pp V) (cm := cmV T pp V) (n := vn V) (vn V) hn.1 (Int.le_refl _)
  have hf12 : Fr [22, 23, 24, 25, 21] μ m2 := hf1.le.tr hf2.le
  have hf3 : Fr [22, 23, 24, 25, 21] μ (up m2 21 0 6 0) := hf12.up
  have hD3 : DFr a μ (up m2 21 0 6 0) := ⟨hf3.le, fun b hb => ⟨by rw [hf3 6 (by decide)], by rw [hf3 2 (by decide)]⟩, by rw [up_ne (by decide), h25, hf1 21 (by decide)]⟩
  have hV3 : vC (up m2 21 0 6 0) a = setO V (t6 (vo V)) := by
    rw [vC_cong (μ := μ) (fun k k1 k2 => hf3 k (by simp; omega)), hVe]
    rw [show t6 (vo V) = vo V by rw [← hVe]; exact t6_t6]; rfl
  have hT3 := hT.2.2
  refine hear_line (rg := rgV T pp V) hV hB rfl (ordL (rgV T pp V) (cmV T pp V) (vn V)) 0 (vo V, false) _ (by rw [up_k (by decide)]; exact ha) (by rw [up_ne (by decide), h24]; simp) hV3 (by rw [up_same]; rfl) (vok_oOk hV) (fun r hr => ?_) (by rw [hf3 14 (by decide)]; exact hT3.2) (by omega) (fun m4 hf4 hm4 hc4 => ?_)
  · have := (hord.2 r).mp hr
    refine ⟨by omega, ?_⟩
    rw [up_k (by decide), hf2 24 (by decide)]; exact (hcr r (by omega) (by omega)).2.1
  · have hoO : oOk (dayO T pp V).1 := dayO_ok hV
    have hT4 : m4 14 t 2 = fastT T := by rw [hf4.1 14 (by decide), hf3 14 (by decide)]; exact hT3.1
    have hfr := fastT_rng hok
    refine loopR (n := vn V) (fun p (m : aM) => Rn g (d + 4) m_Mo_goDay 46 [some (aR 21 0), some (aR 2 a), some (aR 14 t), some (aI p)] [] m Q) (fun p m => DFr a μ m ∧ m 14 t 2 = fastT T ∧ vC m a = setO V (t6 (fun q => if q < p then clp 999 ((dayO T pp V).1 q + fastT T) else (dayO T pp V).1 q)) ∧ m 21 0 6 = b2 (dayC T pp V)) ?_ ?_ 0 m4 (by omega) hn.1 ⟨hD3.tr hf4.D, hT4, ?_, hc4⟩
    · rintro p m h0 hp ⟨hf, h14, hm, hc⟩ ih
      have e2 : m 2 a 0 = vn V := (congrArg vn hm : _)
      have e6 : m 6 a p = (dayO T pp V).1 p := (t6_at (vC_off hm) h0 (by omega)).trans (if_neg (by omega))
      have hop := hoO p h0 (by omega)
      refine B_Mo_goDay_46 (k1 := fun z => absurd z (by omega)) (k2 := fun _ => ih _ ⟨hf.tr HFr.st6.D, by rw [up_k (by decide)]; exact h14, ?_, by rw [up_k (by decide)]; exact hc⟩) (b1 := fun z => absurd z (by omega))
      rw [vC_setO, hm, setO_setO]
      refine congrArg (setO V) ?_
      rw [t6_pu (vC_off hm), e6, h14]
      refine t6_ext fun q q0 q6 => ?_
      unfold pu
      dsimp only
      by_cases hq : q = p
      · rw [if_pos hq, if_pos (by omega), hq]
      · rw [if_neg hq]
        by_cases hq2 : q < p
        · rw [if_pos hq2, if_pos (by omega)]
        · rw [if_neg hq2, if_neg (by omega)]
    · rintro m ⟨hf, h14, hm, hc⟩
      have e2 : m 2 a 0 = vn V := (congrArg vn hm : _)
      have e21 : m 2 a 1 = vd V := (congrArg vd hm : _)
      have hvd := hV.2.1
      refine B_Mo_goDay_46 (k1 := fun _ => h _ ?_ ?_ ?_) (k2 := fun z => absurd z (by omega)) (b3 := fun z => absurd z (by omega))
      · refine hf.tr ⟨Fr.rf.up, fun b hb => ⟨by rw [up_k (by decide)], by rw [up_inst hb]⟩, by rw [up_k (by decide)]⟩
      · rw [vC_setD, hm, e21]; rfl
      · rw [up_k (by decide)]; exact hc
    · rw [hm4]
      refine congrArg (setO V) (t6_ext fun q q0 q6 => ?_)
      rw [if_neg (by omega)]; rfl
theorem c_Mo_goDays {n : Int} (hn0 : 0 ≤ n ∧ n < 2147483647) (hT : CTn μ t T) (hok : TDok T) (hVe : vC μ a = V) (hV : VOk B V) (hB : B + n ≤ 1000000) (hpp : μ 21 0 5 = pp) (h : ∀ μ', DFr a μ μ' → vC μ' a = daysV T pp V n → Q none μ') : Cal g (d + 6) m_Mo_goDays [aR 21 0, aR 2 a, aR 14 t, aI n] μ Q := by
  refine T_Mo_goDays (k1 := loopR (n := n) (fun p (m : aM) => Rn g (d + 5) m_Mo_goDays 3 [some (aR 21 0), some (aR 2 a), some (aR 14 t), some (aI n), some (aI p)] [] m Q) (fun p m => DFr a μ m ∧ vC m a = daysV T pp V p) ?_ ?_ 0 μ (by omega) hn0.1 ⟨DFr.rf, hVe⟩)
  · rintro p m h0 hp ⟨hf, hm⟩ ih
    refine B_Mo_goDays_3 (k1 := fun z => absurd z (by omega)) (k2 := fun _ => ?_)
    refine c_Mo_goDay (B := B + p) (CTn.moved (fun k k1 k2 => hf.1 k (by simp; omega)) hT) hok hm (daysV_ok hV p h0) (by omega) (hf.2.2.trans hpp) (fun m' hf' hm' _ => ?_)
    refine B_Mo_goDays_15 (k1 := ih m' ⟨hf.tr hf', ?_⟩)
    rw [hm', daysV_s h0]
  · rintro m ⟨hf, hm⟩
    exact B_Mo_goDays_3 (k1 := fun _ => h m hf hm) (k2 := fun z => absurd z (by omega))
end
