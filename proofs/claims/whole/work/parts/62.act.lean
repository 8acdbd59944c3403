/-! The acts, and what they leave behind. -/
abbrev Log : Type := Int × (Int → Int)
def lgB (s : Log) (b : Int) : Log := (s.1 + 1, if s.1 < 20 then pu s.2 s.1 b else s.2)
def waA (k v i x : Int) : Int × List Int := if k = 2 ∨ k = 5 then (w32 (w32 (x * 3) + i), [30, 10]) else if k = 4 then (w32 (-(w32 (x + i))), [50, 10]) else if k = 6 then (b_xor (w32 (x + i)) v, [71, 10]) else (w32 (x + i), [10])
def prA (k v i x : Int) : Int × List Int := (w32 ((waA k v i x).1 - v), 11 :: (waA k v i x).2)
def crA (k v i x : Int) : Int × List Int := (b_xor (prA k v i x).1 6, 20 :: (prA k v i x).2)
def raA (k v i x : Int) : Int × List Int := if k = 1 then crA k v i x else if k = 4 then ((crA k v i (w32 (x + 1))).1, 51 :: (crA k v i (w32 (x + 1))).2) else if k = 6 then (w32 ((prA k v i x).1 + w32 (2 + i)), 70 :: ((prA k v i x).2 ++ [10])) else prA k v i x
def ptA (k v i x : Int) : Int × List Int := (w32 ((raA k v i x).1 * 2), 12 :: (raA k v i x).2)
def taA (k v i x : Int) : Int × List Int := if k = 3 ∨ k = 6 then (w32 ((ptA k v i x).1 + (raA k v i 1).1), 40 :: ((ptA k v i x).2 ++ (raA k v i 1).2)) else if k = 5 then ((ptA k v i (w32 (x - i))).1, 60 :: (ptA k v i (w32 (x - i))).2) else ptA k v i x
def lC (μ : aM) : Log := (μ 26 0 1, μ 27 0)
def lM (μ : aM) : Log := (μ 31 0 65, μ 71 0)
def KC (μ m : aM) (L : List Int) : Prop := lC m = L.foldl lgB (lC μ) ∧ Tch (fun k i j => i = 0 ∧ ((k = 26 ∧ j = 1) ∨ k = 27)) μ m
def KM (μ m : aM) (L : List Int) : Prop := lM m = L.foldl lgB (lM μ) ∧ Tch (fun k i j => i = 0 ∧ ((k = 31 ∧ j = 65) ∨ k = 71)) μ m
def clB (f a : Int) : Int := if bodyF f a ≠ 0 then bodyF f a else if bodyF (abv f) a ≠ 0 then bodyF (abv f) a else bodyF (abv (abv f)) a
section
variable {g : aG} {d : Nat} {μ m0 : aM} {Q : aQ} {x f a b k v i t dep : Int}
theorem KC.tr {m m' : aM} {L L' : List Int} (h : KC μ m L) (h2 : KC m m' L') : KC μ m' (L ++ L') := ⟨by rw [List.foldl_append, ← h.1]; exact h2.1, h.2.tr h2.2⟩
theorem KM.tr {m m' : aM} {L L' : List Int} (h : KM μ m L) (h2 : KM m m' L') : KM μ m' (L ++ L') := ⟨by rw [List.foldl_append, ← h.1]; exact h2.1, h.2.tr h2.2⟩
theorem KC.fl {m : aM} {L : List Int} (h : KC μ m L) : m 26 0 2 = μ 26 0 2 ∧ m 26 0 3 = μ 26 0 3 ∧ m 26 0 4 = μ 26 0 4 := ⟨h.2 26 0 2 (by omega), h.2 26 0 3 (by omega), h.2 26 0 4 (by omega)⟩
theorem KM.fl {m : aM} {L : List Int} (h : KM μ m L) : m 32 = μ 32 ∧ m 33 = μ 33 := ⟨funext fun i => funext fun j => h.2 32 i j (by omega), funext fun i => funext fun j => h.2 33 i j (by omega)⟩
/-- how far a trace may have grown -/
theorem lgB_1 {s : Log} : ∀ L : List Int, (L.foldl lgB s).1 = s.1 + L.length := by
  intro L
  induction L generalizing s with
  | nil => exact (Int.add_zero _).symm
  | cons b L ih =>
    show (L.foldl lgB (lgB s b)).1 = _
    rw [ih]
    show s.1 + 1 + (L.length : Int) = s.1 + ((L.length + 1 : Nat) : Int)
    omega
theorem c_Ac_begin (h0 : 0 ≤ μ 26 0 1 ∧ μ 26 0 1 ≤ 1000) (h : ∀ m, KC μ m [b] → Q none m) : Cal g (d + 1) m_Ac_begin [aR 26 0, aI b] μ Q := by
  refine T_Ac_begin (k1 := fun z => h _ ⟨?_, Tch.rf.up (by omega)⟩) (k2 := fun z => h _ ⟨?_, (Tch.rf.up (by omega)).up (by omega)⟩)
  · show (_, _) = (_, _)
    rw [up_same, up_k (by decide)]
    show _ = ((μ 26 0 1) + 1, if (μ 26 0 1) < 20 then _ else μ 27 0)
    rw [if_neg (by omega)]
  · show (_, _) = (_, _)
    rw [up_same, up_k (by decide), up_row]
    show _ = ((μ 26 0 1) + 1, if (μ 26 0 1) < 20 then pu (μ 27 0) (μ 26 0 1) b else μ 27 0)
    rw [if_pos z]
theorem c_M_body (h0 : 0 ≤ μ 31 0 65 ∧ μ 31 0 65 ≤ 1000) (h : ∀ m, KM μ m [b] → Q none m) : Cal g (d + 1) m_M_body [aR 31 0, aI b] μ Q := by
  refine T_M_body (k1 := fun z => h _ ⟨?_, Tch.rf.up (by omega)⟩) (k2 := fun z => h _ ⟨?_, (Tch.rf.up (by omega)).up (by omega)⟩)
  · show (_, _) = (_, _)
    rw [up_same, up_k (by decide)]
    show _ = ((μ 31 0 65) + 1, if (μ 31 0 65) < 20 then _ else μ 71 0)
    rw [if_neg (by omega)]
  · show (_, _) = (_, _)
    rw [up_same, up_k (by decide), up_row]
    show _ = ((μ 31 0 65) + 1, if (μ 31 0 65) < 20 then pu (μ 71 0) (μ 31 0 65) b else μ 71 0)
    rw [if_pos z]
theorem abv_rng (h : 0 ≤ x ∧ x ≤ 6) : 0 ≤ abv x ∧ abv x ≤ 3 := by unfold abv; split; omega; split; omega; split <;> omega
theorem abv_0 (h : 0 ≤ x ∧ x ≤ 3) : abv x = 0 := by unfold abv; rw [if_neg (by omega), if_neg (by omega), if_neg (by omega)]
/-- a body is found, and noted -/
theorem pf_step (hf : 0 ≤ f ∧ f ≤ 6) (ha : 0 ≤ a ∧ a ≤ 2) (hd : 0 ≤ dep ∧ dep < 30) (h0 : 0 ≤ μ 26 0 1 ∧ μ 26 0 1 ≤ 1000) (h : ∀ y m, KC μ m [clB f a] → Rn g (d + 1) m_Ac_perform 59 [some (aR 26 0), some (aI f), some (aI a), some (aI x), some (aI dep), some (aI y), some (aI (clB f a)), none] [] m Q) : Cal g (d + 2) m_Ac_perform [aR 26 0, aI f, aI a, aI x, aI dep] μ Q := by
  have fl : flen g 100 0 = 7 := rfl
  refine TW_Ac_perform (k1 := fun _ => BW_Ac_perform_15 (b4 := by rw [fl]; intros; omega) (k1 := fun z => absurd z (by omega)) (k2 := fun _ z1 => ?_) (k3 := fun _ z1 => ?_)) (k2 := fun z => absurd z (by omega))
  · have e : clB f a = bodyF f a := if_pos z1
    rw [e] at h
    exact Cal_le (show 1 ≤ d + 1 by omega) (c_Ac_begin (d := 0) h0 (fun m hm => h _ m hm))
  · rw [fget_abv hf.1 hf.2]
    have hf1 := abv_rng hf
    refine BW_Ac_perform_15 (b4 := by rw [fl]; intros; omega) (k1 := fun z => absurd z (by omega)) (k2 := fun _ z2 => ?_) (k3 := fun _ z2 => ?_)
    · have e : clB f a = bodyF (abv f) a := by unfold clB; rw [if_neg (fun y => y z1), if_pos z2]
      rw [e] at h
      exact Cal_le (show 1 ≤ d + 1 by omega) (c_Ac_begin (d := 0) h0 (fun m hm => h _ m hm))
    · rw [fget_abv hf1.1 (by omega)]
      have e0 := abv_0 hf1
      have e : clB f a = bodyF (abv (abv f)) a := by unfold clB; rw [if_neg (fun y => y z1), if_neg (fun y => y z2)]
      rw [e] at h
      have hne : bodyF (abv (abv f)) a ≠ 0 := by rw [e0]; unfold bodyF; rw [if_pos rfl]; omega
      exact BW_Ac_perform_15 (b4 := by rw [fl, e0]; intros; omega) (k1 := fun z => absurd z (by omega)) (k2 := fun _ z3 => Cal_le (show 1 ≤ d + 1 by omega) (c_Ac_begin (d := 0) h0 (fun m hm => h _ m hm))) (k3 := fun _ z3 => absurd z3 hne)
theorem KC.n {m : aM} {L : List Int} {c : Int} (h : KC μ m L) (h0 : 0 ≤ μ 26 0 1 ∧ μ 26 0 1 ≤ c) : 0 ≤ m 26 0 1 ∧ m 26 0 1 ≤ c + L.length := by
  have : (lC m).1 = _ := congrArg (·.1) h.1
  rw [lgB_1] at this
  have e : m 26 0 1 = μ 26 0 1 + L.length := this
  omega
theorem KM.n {m : aM} {L : List Int} {c : Int} (h : KM μ m L) (h0 : 0 ≤ μ 31 0 65 ∧ μ 31 0 65 ≤ c) : 0 ≤ m 31 0 65 ∧ m 31 0 65 ≤ c + L.length := by
  have : (lM m).1 = _ := congrArg (·.1) h.1
  rw [lgB_1] at this
  have e : m 31 0 65 = μ 31 0 65 + L.length := this
  omega
theorem p_W0 (hf : f = 0 ∨ f = 1 ∨ f = 3) (hd : 0 ≤ dep ∧ dep < 30) (h0 : 0 ≤ μ 26 0 1 ∧ μ 26 0 1 ≤ 1000) (h : ∀ m, KC μ m [10] → Q (some (aI (w32 (x + μ 26 0 4)))) m) : Cal g (d + 2) m_Ac_perform [aR 26 0, aI f, aI 0, aI x, aI dep] μ Q := by
  have e : clB f 0 = 10 := by rcases hf with e | e | e <;> subst e <;> rfl
  refine pf_step (by omega) (by omega) hd h0 (fun y m hm => ?_)
  rw [e] at hm ⊢
  refine BW_Ac_perform_59 (k1 := fun _ => ?_) (k2 := fun z => absurd z (by decide)) (k3 := fun z => absurd z (by decide)) (k4 := fun z => absurd z (by decide)) (k5 := fun z => absurd z (by decide)) (k6 := fun z => absurd z (by decide)) (k7 := fun z => absurd z (by decide)) (k8 := fun z => absurd z (by decide)) (k9 := fun z => absurd z (by decide)) (k10 := fun z => absurd z (by decide)) (k11 := fun z => absurd z (by decide)) (k12 := fun z => absurd rfl z)
  rw [hm.fl.2.2]; exact h m hm
theorem p_W (hf : 0 ≤ f ∧ f ≤ 6) (hd : 0 ≤ dep ∧ dep < 29) (h0 : 0 ≤ μ 26 0 1 ∧ μ 26 0 1 ≤ 900) (hv : μ 26 0 3 = v) (hi : μ 26 0 4 = i) (h : ∀ m, KC μ m (waA f v i x).2 → Q (some (aI (waA f v i x).1)) m) : Cal g (d + 3) m_Ac_perform [aR 26 0, aI f, aI 0, aI x, aI dep] μ Q := by
  by_cases e : f = 0 ∨ f = 1 ∨ f = 3
  · have ew : waA f v i x = (w32 (x + i), [10]) := by unfold waA; rw [if_neg (by omega), if_neg (by omega), if_neg (by omega)]
    rw [ew] at h
    exact Cal_le (show d + 2 ≤ d + 3 by omega) (p_W0 e (by omega) (by omega) (by rw [hi]; exact h))
  · refine pf_step (d := d + 1) hf (by omega) (by omega) (by omega) (fun y m hm => ?_)
    have fe := hm.fl
    have hn := hm.n h0
    by_cases e2 : f = 2 ∨ f = 5
    · have ec : clB f 0 = 30 := by rcases e2 with e | e <;> subst e <;> rfl
      have ew : waA f v i x = (w32 (w32 (x * 3) + i), [30, 10]) := if_pos e2
      rw [ew] at h
      rw [ec] at hm ⊢
      refine BW_Ac_perform_59 (k1 := fun z => absurd z (by decide)) (k2 := fun z => absurd z (by decide)) (k3 := fun z => absurd z (by decide)) (k4 := fun z => absurd z (by decide)) (k5 := fun _ => ?_) (k6 := fun z => absurd z (by decide)) (k7 := fun z => absurd z (by decide)) (k8 := fun z => absurd z (by decide)) (k9 := fun z => absurd z (by decide)) (k10 := fun z => absurd z (by decide)) (k11 := fun z => absurd z (by decide)) (k12 := fun _ _ _ _ z => absurd rfl z)
      refine p_W0 (Or.inl rfl) (by omega) (by simp at hn; omega) (fun m2 hm2 => BW_Ac_perform_228 (k1 := ?_))
      rw [fe.2.2, hi]; exact h m2 (hm.tr hm2)
    · by_cases e3 : f = 4
      · have ec : clB f 0 = 50 := by subst e3; rfl
        have ew : waA f v i x = (w32 (-(w32 (x + i))), [50, 10]) := by unfold waA; rw [if_neg e2, if_pos e3]
        rw [ew] at h
        rw [ec] at hm ⊢
        refine BW_Ac_perform_59 (k1 := fun z => absurd z (by decide)) (k2 := fun z => absurd z (by decide)) (k3 := fun z => absurd z (by decide)) (k4 := fun z => absurd z (by decide)) (k5 := fun z => absurd z (by decide)) (k6 := fun z => absurd z (by decide)) (k7 := fun _ => ?_) (k8 := fun z => absurd z (by decide)) (k9 := fun z => absurd z (by decide)) (k10 := fun z => absurd z (by decide)) (k11 := fun z => absurd z (by decide)) (k12 := fun _ _ _ _ _ _ z => absurd rfl z)
        refine p_W0 (Or.inr (Or.inl rfl)) (by omega) (by simp at hn; omega) (fun m2 hm2 => BW_Ac_perform_261 (k1 := ?_))
        rw [fe.2.2, hi]; exact h m2 (hm.tr hm2)
      · have e4 : f = 6 := by omega
        have ec : clB f 0 = 71 := by subst e4; rfl
        have ew : waA f v i x = (b_xor (w32 (x + i)) v, [71, 10]) := by unfold waA; rw [if_neg e2, if_neg e3, if_pos e4]
        rw [ew] at h
        rw [ec] at hm ⊢
        refine BW_Ac_perform_59 (k1 := fun z => absurd z (by decide)) (k2 := fun z => absurd z (by decide)) (k3 := fun z => absurd z (by decide)) (k4 := fun z => absurd z (by decide)) (k5 := fun z => absurd z (by decide)) (k6 := fun z => absurd z (by decide)) (k7 := fun z => absurd z (by decide)) (k8 := fun z => absurd z (by decide)) (k9 := fun z => absurd z (by decide)) (k10 := fun z => absurd z (by decide)) (k11 := fun _ => ?_) (k12 := fun _ _ _ _ _ _ _ _ _ _ z => absurd rfl z)
        refine p_W0 (Or.inr (Or.inr rfl)) (by omega) (by simp at hn; omega) (fun m2 hm2 => BW_Ac_perform_319 (k1 := ?_))
        rw [hm2.fl.2.1, fe.2.1, hv, fe.2.2, hi]; exact h m2 (hm.tr hm2)
theorem waA_len : (waA k v i x).2.length ≤ 2 := by unfold waA; split; exact Nat.le_refl 2; split; exact Nat.le_refl 2; split; exact Nat.le_refl 2; exact Nat.le_succ 1
theorem prA_len : (prA k v i x).2.length ≤ 3 := Nat.succ_le_succ waA_len
theorem crA_len : (crA k v i x).2.length ≤ 4 := Nat.succ_le_succ prA_len
theorem raA_len : (raA k v i x).2.length ≤ 5 := by
  unfold raA; split
  · exact Nat.le_trans crA_len (by decide)
  · split
    · exact Nat.succ_le_succ crA_len
    · split
      · have : (prA k v i x).2.length ≤ 3 := prA_len
        show ((prA k v i x).2 ++ [10]).length + 1 ≤ 5
        rw [List.length_append]; show _ + 1 + 1 ≤ 5; omega
      · exact Nat.le_trans prA_len (by decide)
theorem ptA_len : (ptA k v i x).2.length ≤ 6 := Nat.succ_le_succ raA_len
/-- RINGS where it stands in PERSON -/
theorem p_R0 (hk : 0 ≤ k ∧ k ≤ 6) (hf : f = 0 ∨ f = 2 ∨ f = 3 ∨ f = 5) (hd : 0 ≤ dep ∧ dep < 28) (h0 : 0 ≤ μ 26 0 1 ∧ μ 26 0 1 ≤ 800) (hkk : μ 26 0 2 = k) (hv : μ 26 0 3 = v) (hi : μ 26 0 4 = i) (h : ∀ m, KC μ m (prA k v i x).2 → Q (some (aI (prA k v i x).1)) m) : Cal g (d + 4) m_Ac_perform [aR 26 0, aI f, aI 1, aI x, aI dep] μ Q := by
  have ec : clB f 1 = 11 := by rcases hf with e | e | e | e <;> subst e <;> rfl
  refine pf_step (d := d + 2) (by omega) (by omega) (by omega) (by omega) (fun y m hm => ?_)
  have fe := hm.fl
  have hn := hm.n h0
  rw [ec] at hm ⊢
  refine BW_Ac_perform_59 (k1 := fun z => absurd z (by decide)) (k2 := fun _ => ?_) (k3 := fun z => absurd z (by decide)) (k4 := fun z => absurd z (by decide)) (k5 := fun z => absurd z (by decide)) (k6 := fun z => absurd z (by decide)) (k7 := fun z => absurd z (by decide)) (k8 := fun z => absurd z (by decide)) (k9 := fun z => absurd z (by decide)) (k10 := fun z => absurd z (by decide)) (k11 := fun z => absurd z (by decide)) (k12 := fun _ z => absurd rfl z)
  rw [fe.1, hkk]
  refine p_W (d := d) (v := v) (i := i) hk (by omega) (by simp at hn; omega) (fe.2.1.trans hv) (fe.2.2.trans hi) (fun m2 hm2 => BW_Ac_perform_183 (k1 := ?_))
  rw [hm2.fl.2.1, fe.2.1, hv]; exact h m2 (hm.tr hm2)
theorem p_R1 (hk : 0 ≤ k ∧ k ≤ 6) (hd : 0 ≤ dep ∧ dep < 27) (h0 : 0 ≤ μ 26 0 1 ∧ μ 26 0 1 ≤ 700) (hkk : μ 26 0 2 = k) (hv : μ 26 0 3 = v) (hi : μ 26 0 4 = i) (h : ∀ m, KC μ m (crA k v i x).2 → Q (some (aI (crA k v i x).1)) m) : Cal g (d + 5) m_Ac_perform [aR 26 0, aI 1, aI 1, aI x, aI dep] μ Q := by
  refine pf_step (d := d + 3) (by omega) (by omega) (by omega) (by omega) (fun y m hm => ?_)
  have fe := hm.fl
  have hn := hm.n h0
  have ec : clB 1 1 = 20 := rfl
  rw [ec] at hm ⊢
  refine BW_Ac_perform_59 (k1 := fun z => absurd z (by decide)) (k2 := fun z => absurd z (by decide)) (k3 := fun z => absurd z (by decide)) (k4 := fun _ => ?_) (k5 := fun z => absurd z (by decide)) (k6 := fun z => absurd z (by decide)) (k7 := fun z => absurd z (by decide)) (k8 := fun z => absurd z (by decide)) (k9 := fun z => absurd z (by decide)) (k10 := fun z => absurd z (by decide)) (k11 := fun z => absurd z (by decide)) (k12 := fun _ _ _ z => absurd rfl z)
  refine p_R0 (d := d) (k := k) (v := v) (i := i) hk (Or.inl rfl) (by omega) (by simp at hn; omega) (fe.1.trans hkk) (fe.2.1.trans hv) (fe.2.2.trans hi) (fun m2 hm2 => BW_Ac_perform_213 (k1 := ?_))
  exact h m2 (hm.tr hm2)
theorem p_R (hk : 0 ≤ k ∧ k ≤ 6) (hd : 0 ≤ dep ∧ dep < 26) (h0 : 0 ≤ μ 26 0 1 ∧ μ 26 0 1 ≤ 600) (hkk : μ 26 0 2 = k) (hv : μ 26 0 3 = v) (hi : μ 26 0 4 = i) (h : ∀ m, KC μ m (raA k v i x).2 → Q (some (aI (raA k v i x).1)) m) : Cal g (d + 6) m_Ac_perform [aR 26 0, aI k, aI 1, aI x, aI dep] μ Q := by
  by_cases e1 : k = 1
  · have ew : raA k v i x = crA k v i x := if_pos e1
    rw [ew] at h
    have := p_R1 (g := g) (d := d) (x := x) (dep := dep) hk (by omega) (by omega) hkk hv hi h
    rw [← e1] at this
    exact Cal_le (show d + 5 ≤ d + 6 by omega) (by have q := this; rw [e1] at q ⊢; exact q)
  · by_cases e0 : k = 0 ∨ k = 2 ∨ k = 3 ∨ k = 5
    · have ew : raA k v i x = prA k v i x := by unfold raA; rw [if_neg e1, if_neg (by omega), if_neg (by omega)]
      rw [ew] at h
      exact Cal_le (show d + 4 ≤ d + 6 by omega) (p_R0 (d := d) hk e0 (by omega) (by omega) hkk hv hi h)
    · refine pf_step (d := d + 4) (by omega) (by omega) (by omega) (by omega) (fun y m hm => ?_)
      have fe := hm.fl
      have hn := hm.n h0
      by_cases e4 : k = 4
      · have ec : clB k 1 = 51 := by rw [e4]; rfl
        have ew : raA k v i x = ((crA k v i (w32 (x + 1))).1, 51 :: (crA k v i (w32 (x + 1))).2) := by unfold raA; rw [if_neg e1, if_pos e4]
        rw [ew] at h
        rw [ec] at hm ⊢
        refine BW_Ac_perform_59 (k1 := fun z => absurd z (by decide)) (k2 := fun z => absurd z (by decide)) (k3 := fun z => absurd z (by decide)) (k4 := fun z => absurd z (by decide)) (k5 := fun z => absurd z (by decide)) (k6 := fun z => absurd z (by decide)) (k7 := fun z => absurd z (by decide)) (k8 := fun _ => ?_) (k9 := fun z => absurd z (by decide)) (k10 := fun z => absurd z (by decide)) (k11 := fun z => absurd z (by decide)) (k12 := fun _ _ _ _ _ _ _ z => absurd rfl z)
        refine p_R1 (d := d) (k := k) (v := v) (i := i) hk (by omega) (by simp at hn; omega) (fe.1.trans hkk) (fe.2.1.trans hv) (fe.2.2.trans hi) (fun m2 hm2 => BW_Ac_perform_274 (k1 := ?_))
        exact h m2 (hm.tr hm2)
      · have e6 : k = 6 := by omega
        have ec : clB k 1 = 70 := by rw [e6]; rfl
        have ew : raA k v i x = (w32 ((prA k v i x).1 + w32 (2 + i)), 70 :: ((prA k v i x).2 ++ [10])) := by unfold raA; rw [if_neg e1, if_neg e4, if_pos e6]
        rw [ew] at h
        rw [ec] at hm ⊢
        refine BW_Ac_perform_59 (k1 := fun z => absurd z (by decide)) (k2 := fun z => absurd z (by decide)) (k3 := fun z => absurd z (by decide)) (k4 := fun z => absurd z (by decide)) (k5 := fun z => absurd z (by decide)) (k6 := fun z => absurd z (by decide)) (k7 := fun z => absurd z (by decide)) (k8 := fun z => absurd z (by decide)) (k9 := fun z => absurd z (by decide)) (k10 := fun _ => ?_) (k11 := fun z => absurd z (by decide)) (k12 := fun _ _ _ _ _ _ _ _ _ z => absurd rfl z)
        refine Cal_le (show d + 4 ≤ d + 5 by omega) (p_R0 (d := d) (k := k) (v := v) (i := i) hk (Or.inr (Or.inr (Or.inl rfl))) (by omega) (by simp at hn; omega) (fe.1.trans hkk) (fe.2.1.trans hv) (fe.2.2.trans hi) (fun m2 hm2 => BW_Ac_perform_299 (k1 := ?_)))
        have hn2 := hm2.n (c := 601) (by simp at hn; omega)
        have hl := prA_len (k := k) (v := v) (i := i) (x := x)
        refine Cal_le (show 2 ≤ d + 5 by omega) (p_W0 (d := 0) (Or.inr (Or.inr rfl)) (by omega) (by omega) (fun m3 hm3 => BW_Ac_perform_308 (k1 := ?_)))
        rw [hm2.fl.2.2, fe.2.2, hi]
        exact h m3 (hm.tr (hm2.tr hm3))
theorem p_T0 (hk : 0 ≤ k ∧ k ≤ 6) (hf : f = 0 ∨ f = 1 ∨ f = 2 ∨ f = 4) (hd : 0 ≤ dep ∧ dep < 25) (h0 : 0 ≤ μ 26 0 1 ∧ μ 26 0 1 ≤ 500) (hkk : μ 26 0 2 = k) (hv : μ 26 0 3 = v) (hi : μ 26 0 4 = i) (h : ∀ m, KC μ m (ptA k v i x).2 → Q (some (aI (ptA k v i x).1)) m) : Cal g (d + 7) m_Ac_perform [aR 26 0, aI f, aI 2, aI x, aI dep] μ Q := by
  have ec : clB f 2 = 12 := by rcases hf with e | e | e | e <;> subst e <;> rfl
  refine pf_step (d := d + 5) (by omega) (by omega) (by omega) (by omega) (fun y m hm => ?_)
  have fe := hm.fl
  have hn := hm.n h0
  rw [ec] at hm ⊢
  refine BW_Ac_perform_59 (k1 := fun z => absurd z (by decide)) (k2 := fun z => absurd z (by decide)) (k3 := fun _ => ?_) (k4 := fun z => absurd z (by decide)) (k5 := fun z => absurd z (by decide)) (k6 := fun z => absurd z (by decide)) (k7 := fun z => absurd z (by decide)) (k8 := fun z => absurd z (by decide)) (k9 := fun z => absurd z (by decide)) (k10 := fun z => absurd z (by decide)) (k11 := fun z => absurd z (by decide)) (k12 := fun _ _ z => absurd rfl z)
  rw [fe.1, hkk]
  refine p_R (d := d) (v := v) (i := i) hk (by omega) (by simp at hn; omega) (fe.1.trans hkk) (fe.2.1.trans hv) (fe.2.2.trans hi) (fun m2 hm2 => BW_Ac_perform_201 (k1 := ?_))
  exact h m2 (hm.tr hm2)
theorem p_T (hk : 0 ≤ k ∧ k ≤ 6) (hd : 0 ≤ dep ∧ dep < 24) (h0 : 0 ≤ μ 26 0 1 ∧ μ 26 0 1 ≤ 400) (hkk : μ 26 0 2 = k) (hv : μ 26 0 3 = v) (hi : μ 26 0 4 = i) (h : ∀ m, KC μ m (taA k v i x).2 → Q (some (aI (taA k v i x).1)) m) : Cal g (d + 8) m_Ac_perform [aR 26 0, aI k, aI 2, aI x, aI dep] μ Q := by
  by_cases e0 : k = 0 ∨ k = 1 ∨ k = 2 ∨ k = 4
  · have ew : taA k v i x = ptA k v i x := by unfold taA; rw [if_neg (by omega), if_neg (by omega)]
    rw [ew] at h
    exact Cal_le (show d + 7 ≤ d + 8 by omega) (p_T0 (d := d) hk e0 (by omega) (by omega) hkk hv hi h)
  · refine pf_step (d := d + 6) (by omega) (by omega) (by omega) (by omega) (fun y m hm => ?_)
    have fe := hm.fl
    have hn := hm.n h0
    by_cases e5 : k = 5
    · have ec : clB k 2 = 60 := by rw [e5]; rfl
      have ew : taA k v i x = ((ptA k v i (w32 (x - i))).1, 60 :: (ptA k v i (w32 (x - i))).2) := by unfold taA; rw [if_neg (by omega), if_pos e5]
      rw [ew] at h
      rw [ec] at hm ⊢
      refine BW_Ac_perform_59 (k1 := fun z => absurd z (by decide)) (k2 := fun z => absurd z (by decide)) (k3 := fun z => absurd z (by decide)) (k4 := fun z => absurd z (by decide)) (k5 := fun z => absurd z (by decide)) (k6 := fun z => absurd z (by decide)) (k7 := fun z => absurd z (by decide)) (k8 := fun z => absurd z (by decide)) (k9 := fun _ => ?_) (k10 := fun z => absurd z (by decide)) (k11 := fun z => absurd z (by decide)) (k12 := fun _ _ _ _ _ _ _ _ z => absurd rfl z)
      rw [fe.2.2, hi]
      refine p_T0 (d := d) (k := k) (v := v) (i := i) hk (Or.inr (Or.inr (Or.inl rfl))) (by omega) (by simp at hn; omega) (fe.1.trans hkk) (fe.2.1.trans hv) (fe.2.2.trans hi) (fun m2 hm2 => BW_Ac_perform_289 (k1 := ?_))
      exact h m2 (hm.tr hm2)
    · have e3 : k = 3 ∨ k = 6 := by omega
      have ec : clB k 2 = 40 := by rcases e3 with e | e <;> rw [e] <;> rfl
      have ew : taA k v i x = (w32 ((ptA k v i x).1 + (raA k v i 1).1), 40 :: ((ptA k v i x).2 ++ (raA k v i 1).2)) := if_pos e3
      rw [ew] at h
      rw [ec] at hm ⊢
      refine BW_Ac_perform_59 (k1 := fun z => absurd z (by decide)) (k2 := fun z => absurd z (by decide)) (k3 := fun z => absurd z (by decide)) (k4 := fun z => absurd z (by decide)) (k5 := fun z => absurd z (by decide)) (k6 := fun _ => ?_) (k7 := fun z => absurd z (by decide)) (k8 := fun z => absurd z (by decide)) (k9 := fun z => absurd z (by decide)) (k10 := fun z => absurd z (by decide)) (k11 := fun z => absurd z (by decide)) (k12 := fun _ _ _ _ _ z => absurd rfl z)
      refine p_T0 (d := d) (k := k) (v := v) (i := i) hk (Or.inl rfl) (by omega) (by simp at hn; omega) (fe.1.trans hkk) (fe.2.1.trans hv) (fe.2.2.trans hi) (fun m2 hm2 => BW_Ac_perform_238 (k1 := ?_))
      have hn2 := hm2.n (c := 401) (by simp at hn; omega)
      have hl := ptA_len (k := k) (v := v) (i := i) (x := x)
      rw [hm2.fl.1, fe.1, hkk]
      refine Cal_le (show d + 6 ≤ d + 7 by omega) (p_R (d := d) (v := v) (i := i) hk (by omega) (by omega) (by rw [hm2.fl.1, fe.1, hkk]) (by rw [hm2.fl.2.1, fe.2.1, hv]) (by rw [hm2.fl.2.2, fe.2.2, hi]) (fun m3 hm3 => BW_Ac_perform_250 (k1 := ?_)))
      exact h m3 (hm.tr (hm2.tr hm3))
def acA (a k v i x : Int) : Int × List Int := if a = 0 then waA k v i x else if a = 1 then raA k v i x else taA k v i x
theorem c_Ac_play (hk : 0 ≤ μ 3 0 i ∧ μ 3 0 i ≤ 6) (hi : 0 ≤ i ∧ i < 6) (ha : 0 ≤ a ∧ a < 3) (h0 : 0 ≤ μ 26 0 1 ∧ μ 26 0 1 ≤ 400) (h : ∀ m, KC (up (up (up μ 26 0 2 (μ 3 0 i)) 26 0 3 (μ 4 0 i)) 26 0 4 i) m (acA a (μ 3 0 i) (μ 4 0 i) i x).2 → Q (some (aI (acA a (μ 3 0 i) (μ 4 0 i) i x).1)) m) : Cal g (d + 9) m_Ac_play [aR 26 0, aR 2 0, aI i, aI a, aI x] μ Q := by
  refine T_Ac_play (d := d + 6) (k1 := ?_)
  have f1 : up (up (up μ 26 0 2 (μ 3 0 i)) 26 0 3 (μ 4 0 i)) 26 0 4 i 26 0 1 = μ 26 0 1 := by rw [up_ne (by decide), up_ne (by decide), up_ne (by decide)]
  have f2 : up (up (up μ 26 0 2 (μ 3 0 i)) 26 0 3 (μ 4 0 i)) 26 0 4 i 26 0 2 = μ 3 0 i := by rw [up_ne (by decide), up_ne (by decide), up_same]
  have f3 : up (up (up μ 26 0 2 (μ 3 0 i)) 26 0 3 (μ 4 0 i)) 26 0 4 i 26 0 3 = μ 4 0 i := by rw [up_ne (by decide), up_same]
  have f4 : up (up (up μ 26 0 2 (μ 3 0 i)) 26 0 3 (μ 4 0 i)) 26 0 4 i 26 0 4 = i := up_same
  generalize up (up (up μ 26 0 2 (μ 3 0 i)) 26 0 3 (μ 4 0 i)) 26 0 4 i = m0 at f1 f2 f3 f4 h ⊢
  obtain e | e | e : a = 0 ∨ a = 1 ∨ a = 2 := by omega
  · subst e
    exact Cal_le (show d + 3 ≤ d + 8 by omega) (p_W (d := d) (v := μ 4 0 i) (i := i) hk (by omega) (by omega) f3 f4 (fun m hm => B_Ac_play_37 (k1 := h m hm)))
  · subst e
    exact Cal_le (show d + 6 ≤ d + 8 by omega) (p_R (d := d) (v := μ 4 0 i) (i := i) hk (by omega) (by omega) f2 f3 f4 (fun m hm => B_Ac_play_37 (k1 := h m hm)))
  · subst e
    exact p_T (d := d) (v := μ 4 0 i) (i := i) hk (by omega) (by omega) f2 f3 f4 (fun m hm => B_Ac_play_37 (k1 := h m hm))
end
