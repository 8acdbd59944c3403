/-! prompt, best, when, apart on both sides. -/
def argF (f v : Int → Int) (s0 : Int × Int) (n : Int) : Int × Int := fI (fun s k => if f k < s.1 then (f k, v k) else s) s0 n
theorem argF_s {f v : Int → Int} {s0 : Int × Int} {n : Int} (h : 0 ≤ n) : argF f v s0 (n + 1) = if f n < (argF f v s0 n).1 then (f n, v n) else argF f v s0 n := fI_s h
def promptV (T : TDt) (V : Vw) : Int := (argF (fun k => worstV (daysV T k V 30)) (fun k => k) (worstV (daysV T (-1) V 30), -5) (vn V)).2
def bestF (T : TDt) (V : Vw) (p : Int) (k : Int) : Int := worstV (daysV T (-1) (putO V p (k - 9)) 30)
def whenF (T : TDt) (V : Vw) (p : Int) (k : Int) : Int := widthV (daysV T (-1) (putU V p (10 * k)) 30)
def bestV (T : TDt) (V : Vw) (p : Int) : Int := if 0 ≤ p ∧ p < vn V then (argF (bestF T V p) (fun k => k - 9) (1999, 0) 19).2 else -10001
def whenV (T : TDt) (V : Vw) (p : Int) : Int := if 0 ≤ p ∧ p < vn V then (argF (whenF T V p) (fun k => 10 * k) (1999, 0) 10).2 else -1
def apF (T : TDt) (V : Vw) (a b k : Int) : Int := i_abs (vo (daysV T (-1) V k) a - vo (daysV T (-1) V k) b)
def apartV (T : TDt) (V : Vw) (a b n : Int) : Int := if 0 ≤ a ∧ a < vn V then (if 0 ≤ b ∧ b < vn V then (if a = b then -2 else if 0 ≤ n ∧ n ≤ 60 then fI (fun s k => i_max s (apF T V a b (k + 1))) (apF T V a b 0) n else -2) else -1) else -1
section
variable {g : aG} {d : Nat} {μ m0 : aM} {Q : aQ} {p B a b n pp w : Int} {T : TDt} {V : Vw}
theorem CC.sz (hC : CC μ V T) : μ 2 0 0 = vn V := (congrArg vn hC.1 : _)
theorem CM.sz (hC : CM μ V T) : μ 31 0 0 = vn V := (congrArg vn hC.1 : _)
theorem c_M_then (hT : Trl μ m0) (hC : CM μ V T) {V' : Vw} (hv : vM m0 = V') (hV : VOk 9999 V') (hpp : m0 31 0 25 = pp) (h : ∀ m, KFr μ m → Q (some (aI (if w = 0 then widthV (daysV T pp V' 30) else worstV (daysV T pp V' 30)))) m) : Cal g (d + 9) m_M_then [aR 31 0, aI w] m0 Q := by
  have hVd := daysV_ok (T := T) (pp := pp) hV 30 (by omega)
  refine T_M_then (k1 := c_M_goDays (by omega) (hC.2.2.2.1.x hT.1) hC.2.2.1 hv hV (by omega) hpp (fun m hf hm => ?_))
  have hT2 := hT.m hf
  refine B_M_then_6 (k1 := fun z => ?_) (k2 := fun z => ?_)
  · rw [if_pos z] at h
    refine Cal_le (show 1 ≤ d + 8 by omega) (c_M_spread (d := 0) (by rw [hm]; exact hVd) (B_M_then_21 (k1 := Cal_le (show 1 ≤ d + 8 by omega) (c_M_putBack (d := 0) hT2 (fun m' hk => B_M_then_26 (k1 := ?_))))))
    rw [hm]; exact h m' hk
  · rw [if_neg z] at h
    refine Cal_le (show 2 ≤ d + 8 by omega) (c_M_wrong (d := 0) (by rw [hm]; exact hVd) (B_M_then_14 (k1 := Cal_le (show 1 ≤ d + 8 by omega) (c_M_putBack (d := 0) hT2 (fun m' hk => B_M_then_26 (k1 := ?_))))))
    rw [hm]; exact h m' hk
theorem c_P_prompt (hC : CC μ V T) (hpp : μ 21 0 5 = -1) (h : ∀ μ', QFr μ μ' → Q (some (aI (promptV T V))) μ') : Cal g (d + 7) m_P_prompt [aR 0 0] μ Q := by
  have hn := hC.2.1.1
  refine T_P_prompt (k1 := c_P_tryDays hC (by omega) hpp (fun m1 hf1 h51 hv1 => B_P_prompt_6 (k1 := Cal_le (show 1 ≤ d + 6 by omega) (c_Cr_worst (d := 0) (B := 9999 + 30) (by rw [hv1]; exact daysV_ok hC.2.1 30 (by omega)) ?_))))
  rw [hv1]
  refine B_P_prompt_13 (k1 := ?_)
  refine loopR (n := vn V) (fun p (x : aM × Int × Int) => Rn g (d + 6) m_P_prompt 19 [some (aR 0 0), some (aI x.2.1), some (aI x.2.2), some (aI p)] [] x.1 Q) (fun p x => TFr μ x.1 ∧ x.2 = argF (fun k => worstV (daysV T k V 30)) (fun k => k) (worstV (daysV T (-1) V 30), -5) p) ?_ ?_ 0 (m1, worstV (daysV T (-1) V 30), -5) (by omega) hn.1 ⟨hf1, rfl⟩
  · rintro p ⟨m, x1, x2⟩ h0 hp ⟨hf, hx⟩ ih
    dsimp only at hf hx ih ⊢
    have e2 := (hC.t hf).sz
    have hst := argF_s (f := fun k => worstV (daysV T k V 30)) (v := fun k => k) (s0 := (worstV (daysV T (-1) V 30), -5)) h0
    rw [← hx] at hst
    dsimp only at hst
    refine B_P_prompt_19 (k1 := fun z => absurd z (by omega)) (k2 := fun _ => c_P_tryDays (hC.t hf.u21) (by omega) up_same (fun m2 hf2 h52 hv2 => B_P_prompt_47 (k1 := ?_)))
    have hV2 : VOk (9999 + 30) (vC m2 2) := by rw [hv2]; exact daysV_ok hC.2.1 30 (by omega)
    refine Cal_le (show 1 ≤ d + 6 by omega) (c_Cr_worst (d := 0) hV2 ?_)
    rw [hv2]
    refine B_P_prompt_54 (k1 := fun z => ih (m2, x1, x2) ⟨hf.u21.tr hf2, ?_⟩) (k2 := fun z => Cal_le (show 1 ≤ d + 6 by omega) (c_Cr_worst (d := 0) hV2 ?_))
    · rw [hst, if_neg (by omega)]
    · rw [hv2]
      refine B_P_prompt_65 (k1 := ih (m2, _, p) ⟨hf.u21.tr hf2, ?_⟩)
      rw [hst, if_pos z]; rfl
  · rintro ⟨m, x1, x2⟩ ⟨hf, hx⟩
    dsimp only at hf hx ⊢
    have e2 := (hC.t hf).sz
    refine B_P_prompt_19 (k1 := fun _ => ?_) (k2 := fun z => absurd z (by omega))
    have := h _ ⟨hf.u21, up_same⟩
    unfold promptV at this
    rw [← hx] at this; exact this
theorem c_M_prompt (hC : CM μ V T) (h : ∀ μ', KFr μ μ' → Q (some (aI (promptV T V))) μ') : Cal g (d + 10) m_M_prompt [aR 31 0] μ Q := by
  have hn := hC.2.1.1
  refine T_M_prompt (k1 := Cal_le (show 1 ≤ d + 9 by omega) (c_M_save (d := 0) (fun m1 ht1 hv1 _ h25 => B_M_prompt_4 (k1 := c_M_then ht1 hC (hv1.trans hC.1) hC.2.1 (h25.trans hC.2.2.2.2) (fun m2 hk2 => B_M_prompt_9 (k1 := ?_))))))
  rw [if_neg (by decide)]
  refine loopR (n := vn V) (fun p (x : aM × Int × Int) => Rn g (d + 9) m_M_prompt 15 [some (aR 31 0), some (aI x.2.1), some (aI x.2.2), some (aI p), none] [] x.1 Q) (fun p x => KFr μ x.1 ∧ x.2 = argF (fun k => worstV (daysV T k V 30)) (fun k => k) (worstV (daysV T (-1) V 30), -5) p) ?_ ?_ 0 (m2, worstV (daysV T (-1) V 30), -5) (by omega) hn.1 ⟨hk2, rfl⟩
  · rintro p ⟨m, x1, x2⟩ h0 hp ⟨hk, hx⟩ ih
    dsimp only at hk hx ih ⊢
    have hCm := hC.k hk
    have e2 := hCm.sz
    have hst := argF_s (f := fun k => worstV (daysV T k V 30)) (v := fun k => k) (s0 := (worstV (daysV T (-1) V 30), -5)) h0
    rw [← hx] at hst
    dsimp only at hst
    refine B_M_prompt_15 (k1 := fun z => absurd z (by omega)) (k2 := fun _ => Cal_le (show 1 ≤ d + 9 by omega) (c_M_save (d := 0) (fun m3 ht3 hv3 _ h25 => B_M_prompt_27 (k1 := ?_))))
    refine c_M_then ht3.u31 hCm (V' := V) ?_ hC.2.1 up_same (fun m4 hk4 => ?_)
    · unfold vM at hv3 ⊢
      have := hv3.trans hCm.1
      rw [up_ne (by decide), up_ne (by decide), up_ne (by decide), up_k (by decide), up_k (by decide), up_k (by decide), up_k (by decide), up_k (by decide)]
      exact this
    · rw [if_neg (by decide)]
      refine B_M_prompt_37 (k1 := fun z => ih (m4, _, p) ⟨hk.tr hk4, ?_⟩) (k2 := fun z => ih (m4, x1, x2) ⟨hk.tr hk4, ?_⟩)
      · rw [hst, if_pos z]; rfl
      · rw [hst, if_neg (by omega)]
  · rintro ⟨m, x1, x2⟩ ⟨hk, hx⟩
    dsimp only at hk hx ⊢
    have e2 := (hC.k hk).sz
    refine B_M_prompt_15 (k1 := fun _ => ?_) (k2 := fun z => absurd z (by omega))
    have := h _ hk
    unfold promptV at this
    rw [← hx] at this; exact this
theorem c_P_best (hC : CC μ V T) (hpp : μ 21 0 5 = -1) (h : ∀ μ', QFr μ μ' → Q (some (aI (bestV T V p))) μ') : Cal g (d + 7) m_P_best [aR 0 0, aI p] μ Q := by
  have hn := hC.2.1.1
  unfold bestV at h
  refine T_P_best (k1 := fun hp => ?_) (k2 := fun hp => ?_)
  · rw [hC.sz] at hp
    rw [if_pos hp] at h
    refine loopR (n := 19) (fun k (x : aM × Int × Int) => Rn g (d + 6) m_P_best 22 [some (aR 0 0), some (aI p), some (aI x.2.1), some (aI x.2.2), some (aI (k - 9))] [] x.1 Q) (fun k x => QFr μ x.1 ∧ x.2 = argF (bestF T V p) (fun k => k - 9) (1999, 0) k) ?_ ?_ 0 (μ, 1999, 0) (by omega) (by omega) ⟨⟨TFr.rf, hpp⟩, rfl⟩
    · rintro k ⟨m, x1, x2⟩ h0 hk ⟨⟨hf, h5⟩, hx⟩ ih
      dsimp only at hf h5 hx ih ⊢
      have hst := argF_s (f := bestF T V p) (v := fun k => k - 9) (s0 := (1999, 0)) h0
      rw [← hx] at hst
      dsimp only at hst
      have hV1 : VOk 9999 (putO V p (k - 9)) := putO_ok hC.2.1 (by omega)
      refine B_P_best_22 (k1 := fun z => absurd z (by omega)) (k2 := fun _ => Cal_le (show 1 ≤ d + 6 by omega) (c_become (d := 0) (fun m1 hf1 h21 hv1 => B_P_best_43 (k1 := ?_))))
      have hf2 : TFr μ (up m1 6 2 p (k - 9)) := (hf.tr hf1).u
      refine Cal_le (show 1 ≤ d + 6 by omega) (c_P_holder (d := 0) (hC.t hf2) (fun t hT => B_P_best_66 (k1 := ?_)))
      refine c_Mo_goDays (by omega) hT hC.2.2.1 (V := putO V p (k - 9)) (by rw [vC_putO, hv1, (hC.t hf).1]) hV1 (by omega) (pp := -1) (by rw [up_k (by decide), h21]; exact h5) (fun m2 hf3 hv2 => B_P_best_71 (k1 := ?_))
      have hV2 : VOk (9999 + 30) (vC m2 2) := by rw [hv2]; exact daysV_ok hV1 30 (by omega)
      have hf4 : QFr μ m2 := ⟨hf2.tr hf3.T, by rw [hf3.2.2, up_k (by decide), h21]; exact h5⟩
      refine Cal_le (show 1 ≤ d + 6 by omega) (c_Cr_worst (d := 0) hV2 ?_)
      rw [hv2]
      refine B_P_best_78 (k1 := fun z => ?_) (k2 := fun z => Cal_le (show 1 ≤ d + 6 by omega) (c_Cr_worst (d := 0) hV2 ?_))
      · have := ih (m2, x1, x2) ⟨hf4, by rw [hst, if_neg (by unfold bestF; omega)]⟩
        rw [show k + 1 - 9 = k - 9 + 1 by omega] at this; exact this
      · rw [hv2]
        have := ih (m2, _, k - 9) ⟨hf4, by rw [hst, if_pos (show bestF T V p k < x1 from z)]⟩
        rw [show k + 1 - 9 = k - 9 + 1 by omega] at this
        exact B_P_best_89 (k1 := this)
    · rintro ⟨m, x1, x2⟩ ⟨hf, hx⟩
      dsimp only at hf hx ⊢
      refine B_P_best_22 (k1 := fun _ => ?_) (k2 := fun z => absurd z (by decide))
      have := h m hf
      rw [← hx] at this; exact this
  · rw [hC.sz] at hp
    rw [if_neg hp] at h
    exact h μ ⟨TFr.rf, hpp⟩
end
