/-! The class reads an E. -/
def emB (s : Log) (b : Int) : Log := if s.1 < 100 then (s.1 + 1, pu s.2 s.1 b) else s
def KP (t : Int) (μ m : aM) (c : List Int) : Prop := (m 14 t 1, m 18 t) = c.foldl emB (μ 14 t 1, μ 18 t) ∧ Tch (fun k i j => (k = 19 ∧ i = 0 ∧ j = 2) ∨ (i = t ∧ ((k = 14 ∧ j = 1) ∨ k = 18))) μ m
def CTx (μ : aM) (ch : Int → Int) (n : Int) : Prop := μ 19 0 1 = n ∧ ∀ p, 0 ≤ p → p < n → μ 20 0 p = ch p
section
variable {g : aG} {d : Nat} {μ m0 : aM} {Q : aQ} {x f a b k v i t dep n p : Int} {ch : Int → Int}
theorem KP.rf : KP t μ μ [] := ⟨rfl, Tch.rf⟩
theorem KP.tr {m m' : aM} {L L' : List Int} (h : KP t μ m L) (h2 : KP t m m' L') : KP t μ m' (L ++ L') := ⟨by rw [List.foldl_append, ← h.1]; exact h2.1, h.2.tr h2.2⟩
theorem KP.pl {m : aM} {L : List Int} (h : KP t μ m L) : KP t μ (up m 19 0 2 x) L := ⟨by rw [up_other (by decide), up_k (by decide)]; exact h.1, h.2.up (by omega)⟩
theorem KP.ct {m : aM} {L : List Int} (h : KP t μ m L) (hc : CTx μ ch n) : CTx m ch n := ⟨by rw [h.2 19 0 1 (by omega)]; exact hc.1, fun p p0 p1 => by rw [h.2 20 0 p (by omega)]; exact hc.2 p p0 p1⟩
theorem emB_rng : ∀ (L : List Int) {s : Log}, 0 ≤ s.1 ∧ s.1 ≤ 100 → 0 ≤ (L.foldl emB s).1 ∧ (L.foldl emB s).1 ≤ 100 := by
  intro L
  induction L with
  | nil => intro s h; exact h
  | cons b L ih =>
    intro s h
    refine ih (s := emB s b) ?_
    unfold emB; split
    · show 0 ≤ s.1 + 1 ∧ s.1 + 1 ≤ 100; omega
    · exact h
theorem KP.ln {m : aM} {L : List Int} (h : KP t μ m L) (hl : 0 ≤ μ 14 t 1 ∧ μ 14 t 1 ≤ 100) : 0 ≤ m 14 t 1 ∧ m 14 t 1 ≤ 100 := by
  have := emB_rng L (s := (μ 14 t 1, μ 18 t)) hl
  rw [← h.1] at this; exact this
theorem CTx.at (hc : CTx μ ch n) (hx : Txt ch n) (h0 : 0 ≤ p) {c : Int} (hc0 : 0 ≤ c) : (p < μ 19 0 1 ∧ μ 20 0 p = c) ↔ ch p = c := by
  rw [hc.1]
  refine ⟨fun z => by rw [← hc.2 p h0 z.1]; exact z.2, fun z => ?_⟩
  have := hx.lt (p := p) (by omega)
  exact ⟨this, by rw [hc.2 p h0 this]; exact z⟩
theorem CTx.dg (hc : CTx μ ch n) (hx : Txt ch n) (h0 : 0 ≤ p) : (p < μ 19 0 1 ∧ 48 ≤ μ 20 0 p ∧ μ 20 0 p ≤ 57) ↔ dgt (ch p) := by
  rw [hc.1]
  refine ⟨fun z => by rw [hc.2 p h0 z.1] at z; exact z.2, fun z => ?_⟩
  have := hx.lt (p := p) (by unfold dgt at z; omega)
  exact ⟨this, by rw [hc.2 p h0 this]; exact z⟩
theorem c_emit (hl : 0 ≤ μ 14 t 1 ∧ μ 14 t 1 ≤ 100) (h : ∀ m, KP t μ m [b] → m 19 0 2 = μ 19 0 2 → Q none m) : Cal g (d + 1) m_To_emit [aR 14 t, aI b] μ Q := by
  refine T_To_emit (k1 := fun z => h _ ⟨?_, Tch.rf⟩ rfl) (k2 := fun z => h _ ⟨?_, (Tch.rf.up (by omega)).up (by omega)⟩ (by rw [up_other (by decide), up_other (by decide)]))
  · show _ = emB (μ 14 t 1, μ 18 t) b
    unfold emB; rw [if_neg (show ¬ (μ 14 t 1 < 100) by omega)]
  · show _ = emB (μ 14 t 1, μ 18 t) b
    rw [up_same, up_k (by decide), up_row]
    unfold emB; rw [if_pos (show μ 14 t 1 < 100 from z)]
theorem c_take (hc : CTx μ ch n) (hx : Txt ch n) (h0 : 0 ≤ μ 19 0 2) (hc0 : 0 ≤ x) (hT : ch (μ 19 0 2) = x → Q (some (aI 1)) (up μ 19 0 2 (μ 19 0 2 + 1))) (hF : ch (μ 19 0 2) ≠ x → Q (some (aI 0)) μ) : Cal g (d + 2) m_Re_take [aR 19 0, aI x] μ Q := by
  have hi := hc.at hx h0 hc0
  have h1 := hc.1
  have hx1 := hx.1
  exact T_Re_take (b2 := by omega) (k1 := fun z => hT (hi.1 z)) (k2 := fun z => hF (fun y => z (hi.2 y)))
theorem c_number (hc : CTx μ ch n) (hx : Txt ch n) (h0 : 0 ≤ μ 19 0 2 ∧ μ 19 0 2 ≤ n) (h : Q (some (aI (numF ch (μ 19 0 2)).1)) (up μ 19 0 2 (numF ch (μ 19 0 2)).2)) (hN : (numF ch (μ 19 0 2)).1 < 0 → Q (some (aI (-1))) μ) : Cal g (d + 2) m_Re_readNumber [aR 19 0] μ Q := by
  have hi := hc.dg hx h0.1
  have hi2 := hc.dg hx (p := μ 19 0 2 + 1) (by omega)
  have h1 := hc.1
  have hx1 := hx.1
  have hr : ∀ q, 0 ≤ q → q < μ 19 0 1 → 0 ≤ μ 20 0 q ∧ μ 20 0 q ≤ 127 := fun q q0 q1 => by rw [hc.2 q q0 (by omega)]; exact hx.2.1 q q0 (by omega)
  unfold numF at h hN
  refine T_Re_readNumber (b1 := h0.1) (b2 := by omega) (k1 := fun z1 z2 => ?_) (k2 := fun z1 z2 => ?_) (k3 := fun z1 => ?_)
  · have e1 := hi.1 z1
    rw [if_pos e1, if_neg (fun y => z2 (hi2.2 y))] at h
    rw [hc.2 _ h0.1 (by omega)]; exact h
  · have e1 := hi.1 z1
    rw [if_pos e1, if_pos (hi2.1 z2)] at h
    rw [hc.2 _ h0.1 (by omega), hc.2 _ (by omega) (by omega)]
    have e3 : up (up μ 19 0 2 (μ 19 0 2 + 1)) 19 0 2 (μ 19 0 2 + 1 + 1) = up μ 19 0 2 (μ 19 0 2 + 2) := by
      funext k i j
      unfold up
      split
      · show μ 19 0 2 + 1 + 1 = μ 19 0 2 + 2; omega
      · rfl
    rw [e3]; exact h
  · rw [if_neg (fun y => z1 (hi.2 y))] at hN
    exact hN (show (-1 : Int) < 0 by decide)
theorem c_idx (ha : 0 ≤ a ∧ a < 6) (hx : 0 ≤ x ∧ x ≤ 127) (hl : 1 ≤ flen g 102 a ∧ flen g 102 a ≤ 10) (hit : ∀ j, 0 ≤ j → j < flen g 102 a → fget g 102 a j = x → Q (some (aI j)) μ) (miss : (∀ j, 0 ≤ j → j < flen g 102 a → fget g 102 a j ≠ x) → Q (some (aI (-1))) μ) : Cal g (d + 4) m_S_indexOf [aR 101 a, aI x] μ Q := by
  have em : i_max 0 0 = 0 := rfl
  have en : i_min (flen g 102 a) (flen g 102 a) = flen g 102 a := by unfold i_min; rw [if_neg (by omega)]
  refine T_S_indexOf (d := d) (k1 := T_S_indexOf2 (d := d) (b1 := fun z => absurd z (by decide)) (b2 := fun _ => ha) (k1 := fun z => absurd z (by decide)) (k2 := fun _ => T_SL_indexOf (d := d) (k1 := fun _ _ => ?_) (k2 := fun _ z => absurd z (by rw [em, en]; omega)) (k3 := fun z => absurd (by omega) z)))
  rw [em, en]
  refine T_SL_indexOfChar (d := d) (k1 := ?_)
  rw [show w8 x = x by unfold w8; omega]
  refine loopR (n := flen g 102 a) (fun p (m : aM) => Rn g d m_SL_indexOfChar 7 [some (aR 102 a), some (aI x), some (aI 0), some (aI (flen g 102 a)), some (aI x), some (aI p)] [] m _) (fun p m => m = μ ∧ ∀ j, 0 ≤ j → j < p → fget g 102 a j ≠ x) ?_ ?_ 0 μ (by omega) (by omega) ⟨rfl, fun j j0 j1 => absurd j1 (by omega)⟩
  · rintro p m p0 p1 ⟨rfl, hq⟩ ih
    refine B_SL_indexOfChar_7 (k1 := fun z => absurd z (by omega)) (b1 := fun _ => by omega) (b2 := fun _ _ => by omega) (k2 := fun _ z => ih _ ⟨rfl, fun j j0 j1 => ?_⟩) (k3 := fun _ z => B_SL_indexOf_36 (k1 := B_S_indexOf2_20 (k1 := B_S_indexOf_6 (k1 := hit p p0 p1 z))))
    by_cases e : j = p
    · rw [e]; exact z
    · exact hq j j0 (by omega)
  · rintro m ⟨rfl, hq⟩
    exact B_SL_indexOfChar_7 (k1 := fun _ => B_SL_indexOf_36 (k1 := B_S_indexOf2_20 (k1 := B_S_indexOf_6 (k1 := miss hq)))) (b1 := fun z => absurd z (by omega)) (b2 := fun z => absurd z (by omega)) (k2 := fun z => absurd z (by omega)) (k3 := fun z => absurd z (by omega))
theorem c_letter (hx : 0 ≤ x ∧ x ≤ 127) (h : Q (some (aI (placeF x))) μ) : Cal g (d + 4) m_S_indexOf [aR 101 4, aI x] μ Q := by
  have fl : flen g 102 4 = 6 := rfl
  have f0 : fget g 102 4 0 = 112 := rfl
  have f1 : fget g 102 4 1 = 107 := rfl
  have f2 : fget g 102 4 2 = 118 := rfl
  have f3 : fget g 102 4 3 = 117 := rfl
  have f4 : fget g 102 4 4 = 111 := rfl
  have f5 : fget g 102 4 5 = 100 := rfl
  refine c_idx (by omega) hx (by rw [fl]; omega) (fun j j0 j1 e => ?_) (fun hm => ?_)
  · rw [fl] at j1
    have : placeF x = j := by
      obtain q | q | q | q | q | q : j = 0 ∨ j = 1 ∨ j = 2 ∨ j = 3 ∨ j = 4 ∨ j = 5 := by omega
      all_goals (subst q; unfold placeF; omega)
    rw [← this]; exact h
  · rw [fl] at hm
    have g0 := hm 0 (by omega) (by omega)
    have g1 := hm 1 (by omega) (by omega)
    have g2 := hm 2 (by omega) (by omega)
    have g3 := hm 3 (by omega) (by omega)
    have g4 := hm 4 (by omega) (by omega)
    have g5 := hm 5 (by omega) (by omega)
    have : placeF x = -1 := by
      unfold placeF
      rw [if_neg (by omega), if_neg (by omega), if_neg (by omega), if_neg (by omega), if_neg (by omega), if_neg (by omega)]
    rw [← this]; exact h
theorem c_sign (hx : 0 ≤ x ∧ x ≤ 127) (h : Q (some (aI (if 60 ≤ x ∧ x ≤ 62 then x - 60 else -1))) μ) : Cal g (d + 4) m_S_indexOf [aR 101 5, aI x] μ Q := by
  have fl : flen g 102 5 = 3 := rfl
  have f0 : fget g 102 5 0 = 60 := rfl
  have f1 : fget g 102 5 1 = 61 := rfl
  have f2 : fget g 102 5 2 = 62 := rfl
  refine c_idx (by omega) hx (by rw [fl]; omega) (fun j j0 j1 e => ?_) (fun hm => ?_)
  · rw [fl] at j1
    have : 60 + j = x := by
      obtain q | q | q : j = 0 ∨ j = 1 ∨ j = 2 := by omega
      all_goals (subst q; omega)
    rw [if_pos (by omega), show x - 60 = j by omega] at h; exact h
  · rw [fl] at hm
    have g0 := hm 0 (by omega) (by omega)
    have g1 := hm 1 (by omega) (by omega)
    have g2 := hm 2 (by omega) (by omega)
    rw [if_neg (by omega)] at h; exact h
theorem tok_fin : ∀ (l : Fin 6) (s : Fin 3) (k : Fin 100), b_or (b_or (b_shl (l.val : Int) 9) (b_shl (s.val : Int) 7)) (k.val : Int) = 512 * (l.val : Int) + 128 * (s.val : Int) + (k.val : Int) := by decide +kernel
theorem tok_eq {l s k : Int} (hl : 0 ≤ l ∧ l ≤ 5) (hs : 0 ≤ s ∧ s ≤ 2) (hk : 0 ≤ k ∧ k ≤ 99) : b_or (b_or (b_shl l 9) (b_shl s 7)) k = tokF l s k := by
  obtain ⟨l, rfl⟩ : ∃ q : Nat, l = (q : Int) := ⟨l.toNat, by omega⟩
  obtain ⟨s, rfl⟩ : ∃ q : Nat, s = (q : Int) := ⟨s.toNat, by omega⟩
  obtain ⟨k, rfl⟩ : ∃ q : Nat, k = (q : Int) := ⟨k.toNat, by omega⟩
  exact tok_fin ⟨l, by omega⟩ ⟨s, by omega⟩ ⟨k, by omega⟩
theorem c_readTest (hc : CTx μ ch n) (hx : Txt ch n) (hl : 0 ≤ μ 14 t 1 ∧ μ 14 t 1 ≤ 100) (h0 : 0 ≤ μ 19 0 2 ∧ μ 19 0 2 ≤ n) (h : ∀ m c, KP t μ m c → m 19 0 2 = (testF ch (μ 19 0 2)).2.1 → ((testF ch (μ 19 0 2)).1 = true → c = (testF ch (μ 19 0 2)).2.2) → Q (some (aI (b2 (testF ch (μ 19 0 2)).1))) m) : Cal g (d + 6) m_Re_readTest [aR 19 0, aR 14 t] μ Q := by
  have h1 := hc.1
  have hx1 := hx.1
  have no : ∀ (q : Int) (m : aM), KP t μ m [] → m 19 0 2 = q → testF ch (μ 19 0 2) = (false, q, []) → Q (some (aI 0)) m := fun q m hm hq e => by
    rw [e] at h; exact h m [] hm hq (fun _ => rfl)
  refine T_Re_readTest (d := d) (k1 := T_Re_readOneOf (d := d) (b1 := by intros; omega) (k1 := fun z => ?_) (k2 := fun z => ?_))
  · have hr := hx.2.1 _ h0.1 (show μ 19 0 2 < n by omega)
    rw [hc.2 _ h0.1 (by omega), show ch (μ 19 0 2) % 65536 = ch (μ 19 0 2) by omega]
    refine c_letter hr (B_Re_readOneOf_27 (k1 := fun y => B_Re_readTest_6 (k1 := fun y' => absurd y (by omega)) (k2 := fun _ => no (μ 19 0 2) μ KP.rf rfl ?_)) (b1 := by intros; omega) (k2 := fun y => B_Re_readTest_6 (k1 := fun _ => ?_) (k2 := fun y' => absurd y (by omega))))
    · unfold testF; rw [if_pos y]
    have k1 : KP t μ (up μ 19 0 2 (μ 19 0 2 + 1)) [] := KP.rf.pl
    have c1 := k1.ct hc
    have a1 : up μ 19 0 2 (μ 19 0 2 + 1) 19 0 2 = μ 19 0 2 + 1 := up_same
    have a2 : up μ 19 0 2 (μ 19 0 2 + 1) 19 0 1 = n := c1.1
    refine T_Re_readOneOf (d := d) (b1 := by rw [a1, a2]; intros; omega) (k1 := fun z2 => ?_) (k2 := fun z2 => ?_)
    · rw [a1, a2] at z2
      have hr2 := hx.2.1 (μ 19 0 2 + 1) (by omega) (by omega)
      rw [a1, c1.2 (μ 19 0 2 + 1) (by omega) (by omega), show ch (μ 19 0 2 + 1) % 65536 = ch (μ 19 0 2 + 1) by omega]
      refine c_sign hr2 ?_
      by_cases es : 60 ≤ ch (μ 19 0 2 + 1) ∧ ch (μ 19 0 2 + 1) ≤ 62
      · rw [if_pos es]
        refine B_Re_readOneOf_27 (k1 := fun y => absurd y (by omega)) (b1 := by rw [a1]; intros; omega) (k2 := fun _ => B_Re_readTest_19 (k1 := fun _ => ?_) (k2 := fun y => absurd y (by omega)))
        rw [a1]
        have k2 : KP t μ (up (up μ 19 0 2 (μ 19 0 2 + 1)) 19 0 2 (μ 19 0 2 + 1 + 1)) [] := k1.pl
        have c2 := k2.ct hc
        have a3 : up (up μ 19 0 2 (μ 19 0 2 + 1)) 19 0 2 (μ 19 0 2 + 1 + 1) 19 0 2 = μ 19 0 2 + 2 := by rw [up_same]; omega
        generalize up (up μ 19 0 2 (μ 19 0 2 + 1)) 19 0 2 (μ 19 0 2 + 1 + 1) = m2 at k2 c2 a3 ⊢
        have hnum := num_sp hx (p := μ 19 0 2 + 2) (by omega) (by omega)
        refine Cal_le (show 2 ≤ d + 5 by omega) (c_number (d := 0) c2 hx (by omega) (B_Re_readTest_30 (k1 := fun y2 => ?_) (k2 := fun y2 => ?_)) (fun y2 => B_Re_readTest_30 (k1 := fun y3 => absurd y3 (by omega)) (k2 := fun _ => ?_)))
        · rw [a3] at y2 ⊢
          rw [tok_eq ⟨y, placeF_rng.2⟩ (by omega) (by omega)]
          have k3 : KP t μ (up m2 19 0 2 (numF ch (μ 19 0 2 + 2)).2) [] := k2.pl
          have hl3 := k3.ln hl
          refine Cal_le (show 1 ≤ d + 5 by omega) (c_emit (d := 0) hl3 (fun m4 k4 p4 => B_Re_readTest_55 (k1 := ?_)))
          have e : testF ch (μ 19 0 2) = (true, (numF ch (μ 19 0 2 + 2)).2, [tokF (placeF (ch (μ 19 0 2))) (ch (μ 19 0 2 + 1) - 60) (numF ch (μ 19 0 2 + 2)).1]) := by
            unfold testF; rw [if_neg (by omega), if_neg (fun q => q es), if_neg (by omega)]
          rw [e] at h
          exact h m4 _ (k3.tr k4) (by rw [p4, up_same]) (fun _ => rfl)
        · rw [a3] at y2
          refine no (μ 19 0 2 + 2) _ k2.pl ?_ ?_
          · rw [a3, up_same]; exact hnum.2.2.2 y2
          · unfold testF; rw [if_neg (by omega), if_neg (fun q => q es), if_pos y2]
        · rw [a3] at y2
          refine no (μ 19 0 2 + 2) _ k2 a3 ?_
          unfold testF; rw [if_neg (by omega), if_neg (fun q => q es), if_pos y2]
      · rw [if_neg es]
        refine B_Re_readOneOf_27 (k1 := fun _ => B_Re_readTest_19 (k1 := fun y' => absurd y' (by omega)) (k2 := fun _ => no (μ 19 0 2 + 1) _ k1 a1 ?_)) (b1 := by intros; omega) (k2 := fun y => absurd y (by omega))
        unfold testF; rw [if_neg (by omega), if_pos es]
    · rw [a1, a2] at z2
      refine B_Re_readTest_19 (k1 := fun y' => absurd y' (by omega)) (k2 := fun _ => no (μ 19 0 2 + 1) _ k1 a1 ?_)
      have := hx.2.2 (μ 19 0 2 + 1) z2
      unfold testF; rw [if_neg (by omega), if_pos (by omega)]
  · refine B_Re_readTest_6 (k1 := fun y' => absurd y' (by omega)) (k2 := fun _ => no (μ 19 0 2) μ KP.rf rfl ?_)
    have e := hx.2.2 (μ 19 0 2) (by omega)
    unfold testF; rw [if_pos (by rw [e]; decide)]
end
