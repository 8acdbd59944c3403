/-! on, until, pass on both sides. -/
theorem max_ge {o : Int → Int} {s : Int} : ∀ p, 0 ≤ p → s ≤ fI (fun m p => i_max m (o p)) s p := by
  intro p h0
  obtain ⟨k, rfl⟩ : ∃ k : Nat, p = (k : Int) := ⟨p.toNat, by omega⟩
  induction k with
  | zero => exact Int.le_refl _
  | succ k ih =>
    have := ih (by omega)
    rw [show ((k + 1 : Nat) : Int) = (k : Int) + 1 by omega, fI_s (by omega)]
    generalize fI (fun m p => i_max m (o p)) s (k : Int) = y at *
    show s ≤ i_max y (o k)
    unfold i_max; split <;> omega
theorem min_le {o : Int → Int} {s : Int} : ∀ p, 0 ≤ p → fI (fun m p => i_min m (o p)) s p ≤ s := by
  intro p h0
  obtain ⟨k, rfl⟩ : ∃ k : Nat, p = (k : Int) := ⟨p.toNat, by omega⟩
  induction k with
  | zero => exact Int.le_refl _
  | succ k ih =>
    have := ih (by omega)
    rw [show ((k + 1 : Nat) : Int) = (k : Int) + 1 by omega, fI_s (by omega)]
    generalize fI (fun m p => i_min m (o p)) s (k : Int) = y at *
    show i_min y (o k) ≤ s
    unfold i_min; split <;> omega
theorem worst_rng {B : Int} {V : Vw} (hV : VOk B V) : 0 ≤ worstV V ∧ worstV V ≤ 999 := by
  have hn := hV.1
  refine ⟨max_ge (o := fun p => i_abs (vo V p)) (vn V) hn.1, (max_rng (n := vn V) (o := fun p => i_abs (vo V p)) (fun i h0 h1 => ?_) (by omega) (vn V) hn.1 (Int.le_refl _)).2⟩
  have := abs_rng (vok_oOk hV i h0 (by omega))
  omega
theorem width_rng {B : Int} {V : Vw} (hV : VOk B V) : 0 ≤ widthV V ∧ widthV V ≤ 1998 := by
  have hn := hV.1
  unfold widthV
  split
  · omega
  · have h1 := max_ge (o := fun p => vo V (p + 1)) (s := vo V 0) (vn V - 1) (by omega)
    have h2 := min_le (o := fun p => vo V (p + 1)) (s := vo V 0) (vn V - 1) (by omega)
    have h3 := max_rng (n := vn V - 1) (o := fun p => vo V (p + 1)) (s := vo V 0) (fun i i0 i1 => vok_oOk hV (i + 1) (by omega) (by omega)) (vok_oOk hV 0 (by omega) (by omega)) (vn V - 1) (by omega) (by omega)
    have h4 := min_rng (n := vn V - 1) (o := fun p => vo V (p + 1)) (s := vo V 0) (fun i i0 i1 => vok_oOk hV (i + 1) (by omega) (by omega)) (vok_oOk hV 0 (by omega) (by omega)) (vn V - 1) (by omega) (by omega)
    omega
/-- worst or width -/
def wowV (w : Int) (V : Vw) : Int := if w = 0 then worstV V else widthV V
theorem ws_rng {B w : Int} {V : Vw} (hV : VOk B V) : 0 ≤ wowV w V ∧ wowV w V ≤ 1998 := by
  have h1 := worst_rng hV
  have h2 := width_rng hV
  unfold wowV; split <;> omega
/-- the first k at which it is so, or NEVER -/
def fstK (P : Int → Bool) (n : Int) : Int := fI (fun s k => if s < 0 ∧ P k = true then k else s) (-5) n
theorem fst_no {P : Int → Bool} : ∀ n, 0 ≤ n → (∀ q, 0 ≤ q → q < n → P q = false) → fstK P n = -5 := by
  intro n h0
  obtain ⟨k, rfl⟩ : ∃ k : Nat, n = (k : Int) := ⟨n.toNat, by omega⟩
  induction k with
  | zero => intro _; rfl
  | succ k ih =>
    intro h
    have h1 := ih (by omega) (fun q q0 q1 => h q q0 (by omega))
    unfold fstK at h1 ⊢
    rw [show ((k + 1 : Nat) : Int) = (k : Int) + 1 by omega, fI_s (by omega), h1, if_neg]
    rw [h k (by omega) (by omega)]; simp
theorem fst_at {P : Int → Bool} {k : Int} (hk : 0 ≤ k) (h : ∀ q, 0 ≤ q → q < k → P q = false) (hp : P k = true) : ∀ n, k < n → fstK P n = k := by
  intro n hn
  obtain ⟨j, rfl⟩ : ∃ j : Nat, n = k + 1 + (j : Int) := ⟨(n - k - 1).toNat, by omega⟩
  induction j with
  | zero =>
    have h1 := fst_no k hk h
    rw [show k + 1 + ((0 : Nat) : Int) = k + 1 by omega]
    unfold fstK at h1 ⊢
    rw [fI_s hk, h1, if_pos ⟨by omega, hp⟩]
  | succ j ih =>
    have h1 := ih (by omega)
    rw [show k + 1 + ((j + 1 : Nat) : Int) = (k + 1 + (j : Int)) + 1 by omega]
    unfold fstK at h1 ⊢
    rw [fI_s (by omega), h1, if_neg (fun z => by omega)]
def settV (T : TDt) (V : Vw) : Int := fstK (fun k => !dayC T (-1) (daysV T (-1) V k)) 61
def zeroV (T : TDt) (V : Vw) (w : Int) : Int := fstK (fun k => decide (wowV w (daysV T (-1) V k) = 0)) 61
/-- a query of the class is over -/
def QFr (μ μ' : aM) : Prop := TFr μ μ' ∧ μ' 21 0 5 = -1
section
variable {g : aG} {d : Nat} {μ : aM} {Q : aQ} {p B a b n pp w : Int} {T : TDt} {V : Vw}
theorem c_P_settles (hC : CC μ V T) (hpp : μ 21 0 5 = -1) (h : ∀ μ', QFr μ μ' → Q (some (aI (settV T V))) μ') : Cal g (d + 6) m_P_settles [aR 0 0] μ Q := by
  refine T_P_settles (k1 := Cal_le (show 1 ≤ d + 5 by omega) (c_become (d := 0) (fun m1 hf1 h21 hv1 => B_P_settles_14 (k1 := ?_))))
  refine loopR (n := 61) (fun p (m : aM) => Rn g (d + 5) m_P_settles 16 [some (aR 0 0), some (aI p)] [] m Q) (fun p m => QFr μ m ∧ vC m 2 = daysV T (-1) V p ∧ ∀ q, 0 ≤ q → q < p → (!dayC T (-1) (daysV T (-1) V q)) = false) ?_ ?_ 0 m1 (by omega) (by omega) ⟨⟨hf1, by rw [h21]; exact hpp⟩, hv1.trans hC.1, fun q h0 h1 => absurd h1 (by omega)⟩
  · rintro p m h0 hp ⟨⟨hf, h5⟩, hm, hq⟩ ih
    refine B_P_settles_16 (k1 := fun z => absurd z (by omega)) (k2 := fun _ => Cal_le (show 1 ≤ d + 5 by omega) (c_P_holder (d := 0) (hC.t hf) (fun t hT => B_P_settles_34 (k1 := ?_))))
    refine c_Mo_goDay (B := 9999 + p) hT hC.2.2.1 hm (daysV_ok hC.2.1 p h0) (by omega) h5 (fun m' hf' hm' hc' => ?_)
    have hf2 := hf.tr hf'.T
    refine B_P_settles_37 (k1 := fun z => ih m' ⟨⟨hf2, hf'.2.2.trans h5⟩, by rw [hm', daysV_s h0], fun q q0 q1 => ?_⟩) (k2 := fun z => ?_)
    · by_cases e : q = p
      · rw [hc'] at z; rw [e, b2_ne z]; rfl
      · exact hq q q0 (by omega)
    · rw [hc'] at z
      have := h m' ⟨hf2, hf'.2.2.trans h5⟩
      unfold settV at this
      rw [fst_at h0 hq (by rw [b2_eq z]; rfl) 61 hp] at this
      exact this
  · rintro m ⟨hf, hm, hq⟩
    refine B_P_settles_16 (k1 := fun _ => ?_) (k2 := fun z => absurd z (by omega))
    have := h m hf
    unfold settV at this
    rw [fst_no 61 (by omega) hq] at this
    exact this
theorem c_P_firstZero (hC : CC μ V T) (hpp : μ 21 0 5 = -1) (h : ∀ μ', QFr μ μ' → Q (some (aI (zeroV T V w))) μ') : Cal g (d + 6) m_P_firstZero [aR 0 0, aI w] μ Q := by
  refine T_P_firstZero (k1 := Cal_le (show 1 ≤ d + 5 by omega) (c_become (d := 0) (fun m1 hf1 h21 hv1 => B_P_firstZero_14 (k1 := ?_))))
  refine loopR (n := 61) (fun p (m : aM) => Rn g (d + 5) m_P_firstZero 16 [some (aR 0 0), some (aI w), some (aI p)] [] m Q) (fun p m => QFr μ m ∧ vC m 2 = daysV T (-1) V p ∧ ∀ q, 0 ≤ q → q < p → decide (wowV w (daysV T (-1) V q) = 0) = false) ?_ ?_ 0 m1 (by omega) (by omega) ⟨⟨hf1, by rw [h21]; exact hpp⟩, hv1.trans hC.1, fun q h0 h1 => absurd h1 (by omega)⟩
  · rintro p m h0 hp ⟨⟨hf, h5⟩, hm, hq⟩ ih
    have hVp := daysV_ok (T := T) (pp := -1) hC.2.1 p h0
    refine B_P_firstZero_16 (k1 := fun z => absurd z (by omega)) (k2 := fun _ => Cal_le (show 2 ≤ d + 5 by omega) (c_Cr_wrongOrSpread (d := 0) (by rw [hm]; exact hVp) ?_))
    rw [hm]
    refine B_P_firstZero_30 (k1 := fun z => Cal_le (show 1 ≤ d + 5 by omega) (c_P_holder (d := 0) (hC.t hf) (fun t hT => B_P_firstZero_47 (k1 := ?_)))) (k2 := fun z => ?_)
    · refine c_Mo_goDay (B := 9999 + p) hT hC.2.2.1 hm hVp (by omega) h5 (fun m' hf' hm' hc' => ?_)
      have hf2 := hf.tr hf'.T
      refine B_P_firstZero_50 (k1 := ih m' ⟨⟨hf2, hf'.2.2.trans h5⟩, by rw [hm', daysV_s h0], fun q q0 q1 => ?_⟩)
      by_cases e : q = p
      · rw [e]; exact decide_eq_false z
      · exact hq q q0 (by omega)
    · have := h m ⟨hf, h5⟩
      unfold zeroV at this
      rw [fst_at h0 hq (decide_eq_true z) 61 hp] at this
      exact this
  · rintro m ⟨hf, hm, hq⟩
    refine B_P_firstZero_16 (k1 := fun _ => ?_) (k2 := fun z => absurd z (by omega))
    have := h m hf
    unfold zeroV at this
    rw [fst_no 61 (by omega) hq] at this
    exact this
theorem c_M_settles (hC : CM μ V T) (h : ∀ μ', KFr μ μ' → Q (some (aI (settV T V))) μ') : Cal g (d + 8) m_M_settles [aR 31 0] μ Q := by
  refine T_M_settles (k1 := Cal_le (show 1 ≤ d + 7 by omega) (c_M_save (d := 0) (fun m1 ht1 hv1 _ h25 => B_M_settles_4 (k1 := ?_))))
  have fin : ∀ (x k : Int) (m : aM), Trl μ m → x = settV T V → Cal g (d + 7) m_M_putBack [aR 31 0] m (fun rv μ' => Rn g (d + 7) m_M_settles 47 [some (aR 31 0), some (aI x), some (aI k)] (optL rv ++ []) μ' Q) := fun x k m ht hx =>
    Cal_le (show 1 ≤ d + 7 by omega) (c_M_putBack (d := 0) ht (fun m' hk => B_M_settles_47 (k1 := by rw [hx]; exact h m' hk)))
  refine loopR (n := 61) (fun p (m : aM) => Rn g (d + 7) m_M_settles 9 [some (aR 31 0), some (aI (-5)), some (aI p)] [] m Q) (fun p m => (Trl μ m ∧ m 31 0 25 = -1) ∧ vM m = daysV T (-1) V p ∧ ∀ q, 0 ≤ q → q < p → (!dayC T (-1) (daysV T (-1) V q)) = false) ?_ ?_ 0 m1 (by omega) (by omega) ⟨⟨ht1, h25.trans hC.2.2.2.2⟩, hv1.trans hC.1, fun q h0 h1 => absurd h1 (by omega)⟩
  · rintro p m h0 hp ⟨⟨ht, h5⟩, hm, hq⟩ ih
    refine B_M_settles_9 (k1 := fun z => absurd z (by omega)) (k2 := fun _ z => absurd z (by decide)) (k3 := fun _ _ => ?_)
    refine c_M_goDay (B := 9999 + p) (hC.2.2.2.1.x ht.1) hC.2.2.1 hm (daysV_ok hC.2.1 p h0) (by omega) h5 (fun m' hf' hm' hc' => ?_)
    have ht2 := ht.m hf'
    have h52 : m' 31 0 25 = -1 := (hf'.2 25 (by decide) (by decide)).trans h5
    refine B_M_settles_23 (k1 := fun z => ?_) (k2 := fun z => ih m' ⟨⟨ht2, h52⟩, by rw [hm', daysV_s h0], fun q q0 q1 => ?_⟩)
    · rw [hc'] at z
      have hx : p = settV T V := by
        unfold settV
        rw [fst_at h0 hq (by rw [b2_eq z]; rfl) 61 hp]
      exact B_M_settles_9 (k1 := fun _ => fin p (p + 1) m' ht2 hx) (k2 := fun _ _ => fin p (p + 1) m' ht2 hx) (k3 := fun _ z => absurd z (by omega))
    · by_cases e : q = p
      · rw [hc'] at z; rw [e, b2_ne z]; rfl
      · exact hq q q0 (by omega)
  · rintro m ⟨⟨ht, h5⟩, hm, hq⟩
    have hx : -5 = settV T V := by
      unfold settV
      rw [fst_no 61 (by omega) hq]
    exact B_M_settles_9 (k1 := fun _ => fin _ _ m ht hx) (k2 := fun z => absurd z (by decide)) (k3 := fun z => absurd z (by decide))
theorem c_M_zero (hC : CM μ V T) (hw : w = 1 ∨ w = 2) (h : ∀ μ', KFr μ μ' → Q (some (aI (zeroV T V (2 - w)))) μ') : Cal g (d + 8) m_M_zero [aR 31 0, aI w] μ Q := by
  refine T_M_zero (k1 := Cal_le (show 1 ≤ d + 7 by omega) (c_M_save (d := 0) (fun m1 ht1 hv1 _ h25 => B_M_zero_4 (k1 := ?_))))
  refine loopR (n := 61) (fun p (m : aM) => Rn g (d + 7) m_M_zero 6 [some (aR 31 0), some (aI w), some (aI p)] [] m Q) (fun p m => (Trl μ m ∧ m 31 0 25 = -1) ∧ vM m = daysV T (-1) V p ∧ ∀ q, 0 ≤ q → q < p → decide (wowV (2 - w) (daysV T (-1) V q) = 0) = false) ?_ ?_ 0 m1 (by omega) (by omega) ⟨⟨ht1, h25.trans hC.2.2.2.2⟩, hv1.trans hC.1, fun q h0 h1 => absurd h1 (by omega)⟩
  · rintro p m h0 hp ⟨⟨ht, h5⟩, hm, hq⟩ ih
    have hVp := daysV_ok (T := T) (pp := -1) hC.2.1 p h0
    have hr := ws_rng (w := 2 - w) hVp
    have back : wowV (2 - w) (daysV T (-1) V p) = 0 → Cal g (d + 7) m_M_putBack [aR 31 0] m (fun rv μ' => Rn g (d + 7) m_M_zero 45 [some (aR 31 0), some (aI w), some (aI p)] (optL rv ++ []) μ' Q) := fun z =>
      Cal_le (show 1 ≤ d + 7 by omega) (c_M_putBack (d := 0) ht (fun m' hk => B_M_zero_45 (k1 := fun z => absurd z (by omega)) (k2 := fun _ => by
        have := h m' hk
        unfold zeroV at this
        rw [fst_at h0 hq (decide_eq_true z) 61 hp] at this
        exact this)))
    have go : wowV (2 - w) (daysV T (-1) V p) ≠ 0 → Cal g (d + 7) m_M_goDay [aR 31 0] m (fun rv μ' => Rn g (d + 7) m_M_zero 35 [some (aR 31 0), some (aI w), some (aI p)] (optL rv ++ []) μ' Q) := fun z =>
      c_M_goDay (B := 9999 + p) (hC.2.2.2.1.x ht.1) hC.2.2.1 hm hVp (by omega) h5 (fun m' hf' hm' hc' => B_M_zero_35 (k1 := ih m' ⟨⟨ht.m hf', (hf'.2 25 (by decide) (by decide)).trans h5⟩, by rw [hm', daysV_s h0], fun q q0 q1 => by
        by_cases e : q = p
        · rw [e]; exact decide_eq_false z
        · exact hq q q0 (by omega)⟩))
    refine B_M_zero_6 (k1 := fun z => absurd z (by omega)) (k2 := fun _ z => ?_) (k3 := fun _ z => ?_)
    · have e : wowV (2 - w) (daysV T (-1) V p) = worstV (daysV T (-1) V p) := if_pos (by omega)
      rw [e] at back go hr
      refine Cal_le (show 2 ≤ d + 7 by omega) (c_M_wrong (d := 0) (by rw [hm]; exact hVp) ?_)
      rw [hm]
      exact B_M_zero_28 (k1 := fun z => back (by omega)) (k2 := fun z => go (by omega))
    · have e : wowV (2 - w) (daysV T (-1) V p) = widthV (daysV T (-1) V p) := if_neg (by omega)
      rw [e] at back go hr
      refine Cal_le (show 1 ≤ d + 7 by omega) (c_M_spread (d := 0) (by rw [hm]; exact hVp) ?_)
      rw [hm]
      exact B_M_zero_21 (k1 := fun z => back (by omega)) (k2 := fun z => go (by omega))
  · rintro m ⟨⟨ht, h5⟩, hm, hq⟩
    refine B_M_zero_6 (k1 := fun _ => ?_) (k2 := fun z => absurd z (by decide)) (k3 := fun z => absurd z (by decide))
    refine Cal_le (show 1 ≤ d + 7 by omega) (c_M_putBack (d := 0) ht (fun m' hk => B_M_zero_45 (k1 := fun _ => ?_) (k2 := fun z => absurd z (by decide))))
    have := h m' hk
    unfold zeroV at this
    rw [fst_no 61 (by omega) hq] at this
    exact this
def untilV (T : TDt) (V : Vw) (w : Int) : Int := if w = 0 then settV T V else if w = 1 then zeroV T V 1 else if w = 2 then zeroV T V 0 else -1
theorem c_P_until (hC : CC μ V T) (hpp : μ 21 0 5 = -1) (h : ∀ μ', QFr μ μ' → Q (some (aI (untilV T V w))) μ') : Cal g (d + 7) m_P_until [aR 0 0, aI w] μ Q := by
  unfold untilV at h
  refine T_P_until (k1 := fun z => ?_) (k2 := fun z => ?_) (k3 := fun z => ?_) (k4 := fun z1 z2 z3 => ?_)
  · exact c_P_settles hC hpp (fun m hf => B_P_until_32 (k1 := by have := h m hf; rw [if_pos z] at this; exact this))
  · exact c_P_firstZero hC hpp (fun m hf => B_P_until_38 (k1 := by have := h m hf; rw [if_neg (by omega), if_pos z] at this; exact this))
  · exact c_P_firstZero hC hpp (fun m hf => B_P_until_44 (k1 := by have := h m hf; rw [if_neg (by omega), if_neg (by omega), if_pos z] at this; exact this))
  · have := h μ ⟨TFr.rf, hpp⟩
    rw [if_neg z1, if_neg z2, if_neg z3] at this; exact this
theorem c_M_until (hC : CM μ V T) (h : ∀ μ', KFr μ μ' → Q (some (aI (untilV T V w))) μ') : Cal g (d + 9) m_M_until [aR 31 0, aI w] μ Q := by
  unfold untilV at h
  refine T_M_until (k1 := fun z1 z2 => ?_) (k2 := fun z1 z2 => ?_) (k3 := fun z => ?_)
  · have := h μ (KFr.rf hC.2.2.2.2)
    rw [if_neg z1, if_neg (by omega), if_neg (by omega)] at this; exact this
  · refine c_M_zero hC (by omega) (fun m hk => B_M_until_26 (k1 := ?_))
    have := h m hk
    rcases (show w = 1 ∨ w = 2 by omega) with e | e
    · subst e; rw [if_neg (by decide), if_pos rfl] at this; exact this
    · subst e; rw [if_neg (by decide), if_neg (by decide), if_pos rfl] at this; exact this
  · refine c_M_settles hC (fun m hk => B_M_until_8 (k1 := ?_))
    have := h m hk
    rw [if_pos z] at this; exact this
end
