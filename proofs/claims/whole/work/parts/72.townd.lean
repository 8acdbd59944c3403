/-! The class reads a TOWN: its CLAUSES. -/
section
variable {g : aG} {d : Nat} {μ m0 : aM} {Q : aQ} {x f a b k t c n p w o l : Int} {ch : Int → Int} {P : Int → Rs} {T : TDt}
theorem c_close (hc : 0 ≤ μ 14 t 0 ∧ μ 14 t 0 < 10) (h : ∀ m, Tch (fun k i _ => 14 ≤ k ∧ k ≤ 17 ∧ i = t) μ m → m 14 t 0 = μ 14 t 0 + 1 → m 14 t 1 = μ 14 t 1 → m 14 t 2 = (if w = 2 then x else μ 14 t 2) → m 14 t 3 = (if w = 3 then x else μ 14 t 3) → m 15 t = pu (μ 15 t) (μ 14 t 0) w → m 16 t = pu (μ 16 t) (μ 14 t 0) x → m 17 t = pu (μ 17 t) (μ 14 t 0) (μ 14 t 1) → Q none m) : Cal g (d + 1) m_To_close [aR 14 t, aI w, aI x] μ Q := by
  refine T_To_close (k1 := fun _ _ z => absurd z (by omega)) (k2 := fun z1 z2 z3 => ?_) (k3 := fun _ _ z => absurd z (by omega)) (k4 := fun z1 z2 z3 => ?_) (k5 := fun _ _ z => absurd z (by omega)) (k6 := fun z1 z2 z3 => ?_) (k7 := fun _ _ z => absurd z (by omega)) (k8 := fun z1 z2 z3 => absurd (z1.symm.trans z2) (by decide))
  · refine h _ ((((Tch.rf.up (by omega)).up (by omega)).up (by omega)).up (by omega)) up_same ?_ ?_ ?_ ?_ ?_ ?_
    · rw [up_ne (by decide), up_other (by decide), up_other (by decide), up_other (by decide)]
    · rw [if_neg z1, up_ne (by decide), up_other (by decide), up_other (by decide), up_other (by decide)]
    · rw [if_neg z2, up_ne (by decide), up_other (by decide), up_other (by decide), up_other (by decide)]
    · rw [up_k (by decide), up_k (by decide), up_k (by decide), up_row]
    · rw [up_k (by decide), up_k (by decide), up_row, up_k (by decide)]
    · rw [up_k (by decide), up_row, up_k (by decide), up_k (by decide)]
  · refine h _ (((((Tch.rf.up (by omega)).up (by omega)).up (by omega)).up (by omega)).up (by omega)) ?_ ?_ ?_ ?_ ?_ ?_ ?_
    all_goals simp [up_row, up_k, up_same, up_other, z1, z2]
    all_goals try simp [up, pu]
  · refine h _ (((((Tch.rf.up (by omega)).up (by omega)).up (by omega)).up (by omega)).up (by omega)) ?_ ?_ ?_ ?_ ?_ ?_ ?_
    all_goals simp [up_row, up_k, up_same, up_other, z1, z2]
    all_goals try simp [up, pu]
theorem KP.xt {m : aM} {L : List Int} (h : KP t μ m L) : Tch (XT t) μ m := fun k i j hx => h.2 k i j (fun z => hx (by unfold XT; omega))
theorem CTx.xt {m : aM} (tc : Tch (XT t) μ m) (hc : CTx μ ch n) : CTx m ch n := ⟨by rw [tc 19 0 1 (by unfold XT; omega)]; exact hc.1, fun p p0 p1 => by rw [tc 20 0 p (by unfold XT; omega)]; exact hc.2 p p0 p1⟩
theorem c_readClause (hc : CTx μ ch n) (hx : Txt ch n) (h0 : 0 ≤ μ 19 0 2 ∧ μ 19 0 2 ≤ n) (hk : 0 ≤ μ 14 t 0 ∧ μ 14 t 0 < 10) (hl : 0 ≤ μ 14 t 1 ∧ μ 14 t 1 ≤ 100) (hlen : (clauF ch (μ 19 0 2)).1 = true → μ 14 t 1 + ((clauF ch (μ 19 0 2)).2.2.2.2.length : Int) ≤ 100)
    (hF : (clauF ch (μ 19 0 2)).1 = false → ∀ m, Tch (XT t) μ m → m 19 0 2 = (clauF ch (μ 19 0 2)).2.1 → Q (some (aI 0)) m)
    (hT : (clauF ch (μ 19 0 2)).1 = true → ∀ m, Tch (XT t) μ m → m 19 0 2 = (clauF ch (μ 19 0 2)).2.1 → TT m t = addT (TT μ t) (μ 14 t 1) (clauF ch (μ 19 0 2)) → m 14 t 1 = μ 14 t 1 + (clauF ch (μ 19 0 2)).2.2.2.2.length → m 14 t 2 = (if (clauF ch (μ 19 0 2)).2.2.1 = 2 then (clauF ch (μ 19 0 2)).2.2.2.1 else μ 14 t 2) → m 14 t 3 = (if (clauF ch (μ 19 0 2)).2.2.1 = 3 then (clauF ch (μ 19 0 2)).2.2.2.1 else μ 14 t 3) → Q (some (aI 1)) m) : Cal g (d + 17) m_Re_readClause [aR 19 0, aR 14 t] μ Q := by
  have hx1 := hx.1
  have hW := wsel_rng (ch := ch) (p := μ 19 0 2)
  have hs := preF_sp (ch := ch) (wlist (wsel ch (μ 19 0 2))) (μ 19 0 2)
  have hle := preF_le hx (wlist (wsel ch (μ 19 0 2))) (μ 19 0 2) wlist_pos h0.2
  have hh := head_sp hx h0.2
  have fail : ∀ (q : Int) (m : aM), Tch (XT t) μ m → m 19 0 2 = q → clauF ch (μ 19 0 2) = (false, q, 0, 0, []) → Q (some (aI 0)) m := fun q m tc hp e => by
    rw [e] at hF; exact hF rfl m tc hp
  have kp0 : ∀ q, KP t μ (up μ 19 0 2 q) [] := fun q => KP.rf.pl
  refine T_Re_readClause (d := d + 10) (k1 := Cal_le (show d + 6 ≤ d + 16 by omega) (c_readWord (d := d) hc hx h0 (fun ew => ?_) (fun ew => ?_)))
  · -- the word stands
    refine B_Re_readClause_4 (k1 := fun z => absurd z (by omega)) (k2 := fun _ => ?_)
    have p1 : up μ 19 0 2 (μ 19 0 2 + (wlist (wsel ch (μ 19 0 2))).length) 19 0 2 = μ 19 0 2 + (wlist (wsel ch (μ 19 0 2))).length := up_same
    have k1 := kp0 (μ 19 0 2 + (wlist (wsel ch (μ 19 0 2))).length)
    have c1 := k1.ct hc
    generalize up μ 19 0 2 (μ 19 0 2 + (wlist (wsel ch (μ 19 0 2))).length) = m1 at p1 k1 c1 ⊢
    refine Cal_le (show 2 ≤ d + 16 by omega) (c_take (d := 0) c1 hx (by omega) (by omega) (fun e2 => ?_) (fun e2 => ?_))
    · rw [p1] at e2
      have eh : headF ch (μ 19 0 2) = (true, μ 19 0 2 + (wlist (wsel ch (μ 19 0 2))).length + 1) := by unfold headF; rw [if_pos ew, if_pos e2]
      have l2 := hx.lt (p := μ 19 0 2 + (wlist (wsel ch (μ 19 0 2))).length) (by omega)
      refine B_Re_readClause_15 (k1 := fun _ => ?_) (k2 := fun z => absurd z (by decide))
      have p2 : up m1 19 0 2 (m1 19 0 2 + 1) 19 0 2 = (headF ch (μ 19 0 2)).2 := by rw [up_same, p1, eh]
      have k2 : KP t μ (up m1 19 0 2 (m1 19 0 2 + 1)) [] := k1.pl
      have c2 := k2.ct hc
      generalize up m1 19 0 2 (m1 19 0 2 + 1) = m2 at p2 k2 c2 ⊢
      have eh1 : (headF ch (μ 19 0 2)).1 = true := by rw [eh]
      have hn := num_sp hx (p := (headF ch (μ 19 0 2)).2) (by omega) (by omega)
      refine Cal_le (show 2 ≤ d + 16 by omega) (c_number (d := 0) c2 hx (by omega) ?_ (fun y => ?_))
      · rw [p2]
        have k3 : KP t μ (up m2 19 0 2 (numF ch (headF ch (μ 19 0 2)).2).2) [] := k2.pl
        have p3 : up m2 19 0 2 (numF ch (headF ch (μ 19 0 2)).2).2 19 0 2 = (numF ch (headF ch (μ 19 0 2)).2).2 := up_same
        have c3 := k3.ct hc
        generalize up m2 19 0 2 (numF ch (headF ch (μ 19 0 2)).2).2 = m3 at k3 p3 c3 ⊢
        have fneg : (numF ch (headF ch (μ 19 0 2)).2).1 < 0 → Q (some (aI 0)) m3 := fun y => by
          refine fail _ m3 k3.xt (p3.trans (hn.2.2.2 y)) ?_
          unfold clauF; rw [if_pos eh1, if_pos y]
        have fin : ∀ (m5 : aM) (L : List Int), 0 ≤ (numF ch (headF ch (μ 19 0 2)).2).1 → KP t μ m5 L → clauF ch (μ 19 0 2) = (true, m5 19 0 2, wsel ch (μ 19 0 2), (numF ch (headF ch (μ 19 0 2)).2).1, L) → Cal g (d + 16) m_To_close [aR 14 t, aI (wsel ch (μ 19 0 2)), aI (numF ch (headF ch (μ 19 0 2)).2).1] m5 (fun rv μ' => Rn g (d + 16) m_Re_readClause 66 [some (aR 19 0), some (aR 14 t), some (aI (wsel ch (μ 19 0 2))), some (aI (numF ch (headF ch (μ 19 0 2)).2).1)] (optL rv ++ []) μ' Q) := by
          intro m5 L _ k5 e
          rw [e] at hT hlen
          have hlen := hlen rfl
          have hlen : μ 14 t 1 + (L.length : Int) ≤ 100 := hlen
          obtain ⟨b1, b2, b3⟩ := emB_row L (μ 14 t 1) (μ 18 t) hl.1 hlen
          have f0 : m5 14 t 0 = μ 14 t 0 := k5.2 14 t 0 (by omega)
          have f1 : m5 14 t 1 = μ 14 t 1 + L.length := by
            have := congrArg (·.1) k5.1
            exact this.trans b1
          have f8 : m5 18 t = (L.foldl emB (μ 14 t 1, μ 18 t)).2 := congrArg (·.2) k5.1
          refine Cal_le (show 1 ≤ d + 16 by omega) (c_close (d := 0) (by omega) (fun m6 t6 g0 g1 g2 g3 g5 g6 g7 => B_Re_readClause_66 (k1 := ?_)))
          refine hT rfl m6 (k5.xt.tr (fun k i j hx' => t6 k i j (fun z => hx' (by unfold XT; omega)))) (t6 19 0 2 (by omega)) ?_ (g1.trans f1) ?_ ?_
          · show (m6 14 t 0, m6 15 t, m6 16 t, m6 17 t, m6 18 t) = (μ 14 t 0 + 1, pu (μ 15 t) (μ 14 t 0) (wsel ch (μ 19 0 2)), pu (μ 16 t) (μ 14 t 0) (numF ch (headF ch (μ 19 0 2)).2).1, pu (μ 17 t) (μ 14 t 0) (μ 14 t 1 + L.length), (L.foldl emB (μ 14 t 1, μ 18 t)).2)
            rw [g0, g5, g6, g7, t6.row (k := 18) (i := t) (fun j => by omega), f0, f1, f8, k5.2.row (k := 15) (i := t) (fun j => by omega), k5.2.row (k := 16) (i := t) (fun j => by omega), k5.2.row (k := 17) (i := t) (fun j => by omega)]
          · rw [g2, k5.2 14 t 2 (by omega)]
          · rw [g3, k5.2 14 t 3 (by omega)]
        have lo : wsel ch (μ 19 0 2) ≤ 1 → 0 ≤ (numF ch (headF ch (μ 19 0 2)).2).1 → Cal g (d + 16) m_Re_take [aR 19 0, aI 32] m3 (fun rv μ' => Rn g (d + 16) m_Re_readClause 46 [some (aR 19 0), some (aR 14 t), some (aI (wsel ch (μ 19 0 2))), some (aI (numF ch (headF ch (μ 19 0 2)).2).1)] (optL rv ++ []) μ' Q) := fun w1 y => by
          have hn2 := hn.2.1 y
          refine Cal_le (show 2 ≤ d + 16 by omega) (c_take (d := 0) c3 hx (by omega) (by omega) (fun e4 => ?_) (fun e4 => ?_))
          · rw [p3] at e4
            have l4 := hx.lt (p := (numF ch (headF ch (μ 19 0 2)).2).2) (by omega)
            refine B_Re_readClause_46 (k1 := fun z => absurd z (by decide)) (k2 := fun _ => ?_)
            have k4 : KP t μ (up m3 19 0 2 (m3 19 0 2 + 1)) [] := k3.pl
            have p4 : up m3 19 0 2 (m3 19 0 2 + 1) 19 0 2 = (numF ch (headF ch (μ 19 0 2)).2).2 + 1 := by rw [up_same, p3]
            generalize up m3 19 0 2 (m3 19 0 2 + 1) = m4 at k4 p4 ⊢
            have hgv : ∀ p, 0 ≤ p → p ≤ n → Gd n p 40 (partF ch 4 p) := fun p p0 p1 => (part_gd hx 4 (by omega) p p0 p1).mono (by omega)
            have pc := part_pc (g := g) (d := d) (t := t) hx 4 (by omega)
            have ei := either_pc (g := g) (d := d + 13) (t := t) (w := 0) (P := partF ch 4) (W := 40) hx (by omega) hgv pc
            refine ei m4 _ (k4.ct hc) (k4.ln hl) (by omega) (fun m5 L k5 p5 ok5 => ?_)
            rw [p4] at p5 ok5 ⊢
            have k45 := k4.tr k5
            cases hb : (eithF ch (partF ch 4) ((numF ch (headF ch (μ 19 0 2)).2).2 + 1)).1
            · refine B_Re_readClause_55 (k1 := fun z => absurd rfl z) (k2 := fun _ => fail _ m5 k45.xt p5 ?_)
              unfold clauF; rw [if_pos eh1, if_neg (by omega), if_neg (by omega), if_pos e4, if_neg (by rw [hb]; decide)]
            · have eL := ok5 hb
              refine B_Re_readClause_55 (k1 := fun _ => fin m5 L y k45 ?_) (k2 := fun z => absurd z (by decide))
              unfold clauF; rw [if_pos eh1, if_neg (by omega), if_neg (by omega), if_pos e4, if_pos hb, p5, eL]
          · rw [p3] at e4
            refine B_Re_readClause_46 (k1 := fun _ => fail _ m3 k3.xt p3 ?_) (k2 := fun z => absurd rfl z)
            unfold clauF; rw [if_pos eh1, if_neg (by omega), if_neg (by omega), if_neg e4]
        refine B_Re_readClause_24 (k1 := fun y w0 => ?_) (k2 := fun y w0 w1 => fin m3 [] y k3 ?_) (k3 := fun y _ w1 => lo (by omega) y) (k4 := fun y => fneg y)
        · exact lo (by omega) y
        · unfold clauF; rw [if_pos eh1, if_neg (by omega), if_pos (by omega), p3]
      · rw [p2] at y
        refine B_Re_readClause_24 (k1 := fun z => absurd z (by decide)) (k2 := fun z => absurd z (by decide)) (k3 := fun z => absurd z (by decide)) (k4 := fun _ => fail _ m2 k2.xt p2 ?_)
        unfold clauF; rw [if_pos eh1, if_pos y]
    · rw [p1] at e2
      have eh : headF ch (μ 19 0 2) = (false, μ 19 0 2 + (wlist (wsel ch (μ 19 0 2))).length) := by unfold headF; rw [if_pos ew, if_neg e2]
      refine B_Re_readClause_15 (k1 := fun z => absurd rfl z) (k2 := fun _ => fail _ m1 k1.xt p1 ?_)
      unfold clauF; rw [if_neg (by rw [eh]; exact Bool.false_ne_true), eh]
  · have eh : headF ch (μ 19 0 2) = (false, μ 19 0 2 + preF ch (wlist (wsel ch (μ 19 0 2))) (μ 19 0 2)) := by unfold headF; rw [if_neg ew]
    refine B_Re_readClause_4 (k1 := fun _ => fail _ _ (kp0 _).xt up_same ?_) (k2 := fun z => absurd z (by decide))
    unfold clauF; rw [if_neg (by rw [eh]; exact Bool.false_ne_true), eh]
/-- the CLAUSES behind the first -/
theorem l_text (hx : Txt ch n) : ∀ (k : Nat) (m : aM) (T : TDt) (l : Int), k ≤ 9 → CTx m ch n → (0 ≤ m 19 0 2 ∧ m 19 0 2 ≤ n) → TT m t = T → TG T l → T.1 + k = 10 → l ≤ m 19 0 2 → m 14 t 1 = l → m 14 t 2 = fastT T → m 14 t 3 = loudT T → 
    (∀ m', Tch (XT t) m m' → m' 19 0 2 = (textF ch n k (m 19 0 2) T l).2.1 → ((textF ch n k (m 19 0 2) T l).1 = true → TT m' t = (textF ch n k (m 19 0 2) T l).2.2.1 ∧ TG (TT m' t) (textF ch n k (m 19 0 2) T l).2.2.2 ∧ m' 14 t 2 = fastT (TT m' t) ∧ m' 14 t 3 = loudT (TT m' t)) → Q (some (aI (b2 (textF ch n k (m 19 0 2) T l).1))) m') →
    Rn g (d + 17) m_Re_readTown 17 [some (aR 19 0), some (aR 14 t), some (aI 1), some (aI (10 - (k : Int)))] [] m Q := by
  intro k
  have fin : ∀ (m : aM) (T : TDt) (l : Int), CTx m ch n → TT m t = T → TG T l → m 14 t 2 = fastT T → m 14 t 3 = loudT T → (∀ m', Tch (XT t) m m' → m' 19 0 2 = m 19 0 2 → (decide (m 19 0 2 = n) = true → TT m' t = T ∧ TG (TT m' t) l ∧ m' 14 t 2 = fastT (TT m' t) ∧ m' 14 t 3 = loudT (TT m' t)) → Q (some (aI (b2 (decide (m 19 0 2 = n))))) m') → (m 19 0 2 ≠ m 19 0 1 → Q (some (aI 0)) m) ∧ (m 19 0 2 = m 19 0 1 → Q (some (aI 1)) m) := by
    intro m T l hc hT hG hf hl h
    have h1 := h m Tch.rf rfl (fun _ => by rw [hT]; exact ⟨rfl, hG, hf, hl⟩)
    refine ⟨fun e => ?_, fun e => ?_⟩
    · rw [decide_eq_false (by rw [hc.1] at e; exact e)] at h1; exact h1
    · rw [decide_eq_true (by rw [hc.1] at e; exact e)] at h1; exact h1
  induction k with
  | zero =>
    intro m T l _ hc h0 hT hG hk hl e1 e2 e3 h
    obtain ⟨f1, f2⟩ := fin m T l hc hT hG e2 e3 h
    exact B_Re_readTown_17 (k1 := fun _ z => absurd z (by decide)) (k2 := fun _ _ z => f1 z) (k3 := fun _ _ z => f2 z) (k4 := fun z => absurd z (by omega)) (k5 := fun z => absurd z (by omega)) (k6 := fun z => absurd z (by omega)) (b1 := fun z => absurd z (by omega)) (b2 := fun z => absurd z (by omega)) (k7 := fun z => absurd z (by omega)) (k8 := fun z => absurd z (by omega)) (k9 := fun z => absurd z (by omega)) (b3 := fun z => absurd z (by omega)) (k10 := fun z => absurd z (by omega))
  | succ k ih =>
    intro m T l hk9 hc h0 hT hG hk hl e1 e2 e3 h
    have hx1 := hx.1
    have hc1 := hc.1
    have i59 := hc.at hx h0.1 (c := 59) (by omega)
    have no : ch (m 19 0 2) ≠ 59 → (m 19 0 2 ≠ m 19 0 1 → Q (some (aI 0)) m) ∧ (m 19 0 2 = m 19 0 1 → Q (some (aI 1)) m) := fun ne => by
      have e : textF ch n (k + 1) (m 19 0 2) T l = (decide (m 19 0 2 = n), m 19 0 2, T, l) := by
        show (if ch (m 19 0 2) = 59 then _ else _) = _
        rw [if_neg ne]
      rw [e] at h
      exact fin m T l hc hT hG e2 e3 h
    refine B_Re_readTown_17 (k1 := fun z => absurd z (by omega)) (k2 := fun z => absurd z (by omega)) (k3 := fun z => absurd z (by omega)) (k4 := fun _ z => absurd z (by decide)) (k5 := fun _ z => absurd z (by decide)) (k6 := fun _ z => absurd z (by decide)) (b1 := fun _ _ => h0.1) (b2 := fun _ _ => by omega) (k7 := fun _ _ _ z => absurd z (by decide)) (k8 := fun _ _ z _ y => (no (fun q => z (i59.2 q))).1 y) (k9 := fun _ _ z _ y => (no (fun q => z (i59.2 q))).2 y) (b3 := fun _ _ _ => by omega) (k10 := fun _ _ z => ?_)
    have e59 := i59.1 z
    have l1 := hx.lt (p := m 19 0 2) (by omega)
    have hcl := clau_sp hx (p := m 19 0 2 + 1) (by omega) (by omega)
    have hcl1 := hcl.1
    have t1 : Tch (XT t) m (up m 19 0 2 (m 19 0 2 + 1)) := Tch.rf.up (by unfold XT; omega)
    have p1 : up m 19 0 2 (m 19 0 2 + 1) 19 0 2 = m 19 0 2 + 1 := up_same
    have TT1 : TT (up m 19 0 2 (m 19 0 2 + 1)) t = T := by rw [← hT]; unfold TT; rw [up_other (by decide), up_k (by decide), up_k (by decide), up_k (by decide), up_k (by decide)]
    have q0 : up m 19 0 2 (m 19 0 2 + 1) 14 t 0 = T.1 := congrArg (·.1) TT1
    have q1 : up m 19 0 2 (m 19 0 2 + 1) 14 t 1 = l := (up_other (by decide)).trans e1
    have q2 : up m 19 0 2 (m 19 0 2 + 1) 14 t 2 = fastT T := (up_other (by decide)).trans e2
    have q3 : up m 19 0 2 (m 19 0 2 + 1) 14 t 3 = loudT T := (up_other (by decide)).trans e3
    have c1 := hc.xt t1
    have hG1 := hG.1
    have hG2 := hG.2.1
    generalize up m 19 0 2 (m 19 0 2 + 1) = m1 at t1 p1 TT1 q0 q1 q2 q3 c1 ⊢
    refine c_readClause (d := d) c1 hx (by omega) (by omega) (by omega) (fun hb => ?_) (fun hb m2 t2 p2 => ?_) (fun hb m2 t2 p2 T2 l2 f2 u2 => ?_)
    · rw [p1] at hb ⊢
      have := (hcl.2 hb).2.2.1
      omega
    · rw [p1] at hb p2
      have e : textF ch n (k + 1) (m 19 0 2) T l = (false, (clauF ch (m 19 0 2 + 1)).2.1, T, l) := by
        show (if ch (m 19 0 2) = 59 then _ else _) = _
        rw [if_pos e59, if_neg (by rw [hb]; decide)]
      rw [e] at h
      have hq := h m2 (t1.tr t2) p2 (fun q => absurd (show false = true from q) (by decide))
      refine B_Re_readTown_51 (b1 := by omega) (k1 := ?_)
      refine B_Re_readTown_17 (k1 := fun _ _ => hq) (k2 := fun _ z => absurd rfl z) (k3 := fun _ z => absurd rfl z) (k4 := fun _ _ _ => hq) (k5 := fun _ _ z => absurd rfl z) (k6 := fun _ _ z => absurd rfl z) (b1 := fun _ z => absurd rfl z) (b2 := fun _ z => absurd rfl z) (k7 := fun _ z => absurd rfl z) (k8 := fun _ z => absurd rfl z) (k9 := fun _ z => absurd rfl z) (b3 := fun _ z => absurd rfl z) (k10 := fun _ z => absurd rfl z)
    · rw [p1] at hb p2 T2 l2 f2 u2
      rw [TT1, q1] at T2
      rw [q1] at l2
      rw [q2] at f2
      rw [q3] at u2
      obtain ⟨r1, r2, r3, r4, r5⟩ := hcl.2 hb
      have e : textF ch n (k + 1) (m 19 0 2) T l = textF ch n k (clauF ch (m 19 0 2 + 1)).2.1 (addT T l (clauF ch (m 19 0 2 + 1))) (l + (clauF ch (m 19 0 2 + 1)).2.2.2.2.length) := by
        show (if ch (m 19 0 2) = 59 then _ else _) = _
        rw [if_pos e59, if_pos hb]
      rw [e] at h
      refine B_Re_readTown_51 (b1 := by omega) (k1 := ?_)
      rw [show 10 - ((k + 1 : Nat) : Int) + 1 = 10 - (k : Int) by omega]
      refine ih m2 (addT T l (clauF ch (m 19 0 2 + 1))) (l + (clauF ch (m 19 0 2 + 1)).2.2.2.2.length) (by omega) (c1.xt t2) (by omega) T2 (TG.add hG (by omega) hcl hb (by omega)) (show T.1 + 1 + (k : Int) = 10 by omega) (by omega) l2 (by rw [f2, fast_add hG1.1]) (by rw [u2, loud_add hG1.1]) (fun m' t' => ?_)
      rw [p2]
      exact h m' ((t1.tr t2).tr t')
theorem c_readTown (hc : CTx μ ch n) (hx : Txt ch n) (h : ∀ m', Tch (XT t) μ m' → m' 19 0 2 = (townF ch n (0, μ 15 t, μ 16 t, μ 17 t, μ 18 t)).2.1 → ((townF ch n (0, μ 15 t, μ 16 t, μ 17 t, μ 18 t)).1 = true → TT m' t = (townF ch n (0, μ 15 t, μ 16 t, μ 17 t, μ 18 t)).2.2.1 ∧ TG (TT m' t) (townF ch n (0, μ 15 t, μ 16 t, μ 17 t, μ 18 t)).2.2.2 ∧ m' 14 t 2 = fastT (TT m' t) ∧ m' 14 t 3 = loudT (TT m' t)) → Q (some (aI (b2 (townF ch n (0, μ 15 t, μ 16 t, μ 17 t, μ 18 t)).1))) m') : Cal g (d + 18) m_Re_readTown [aR 19 0, aR 14 t] μ Q := by
  have hx1 := hx.1
  refine T_Re_readTown (d := d + 10) (k1 := Cal_le (show 1 ≤ d + 17 by omega) (T_To_clear (d := 0) (k1 := B_Re_readTown_4 (k1 := ?_))))
  have t1 : Tch (XT t) μ (up (up (up (up (up μ 14 t 0 0) 14 t 1 0) 14 t 2 0) 14 t 3 5) 19 0 2 0) := ((((Tch.rf.up (by unfold XT; omega)).up (by unfold XT; omega)).up (by unfold XT; omega)).up (by unfold XT; omega)).up (by unfold XT; omega)
  have p1 : up (up (up (up (up μ 14 t 0 0) 14 t 1 0) 14 t 2 0) 14 t 3 5) 19 0 2 0 19 0 2 = 0 := up_same
  have TT1 : TT (up (up (up (up (up μ 14 t 0 0) 14 t 1 0) 14 t 2 0) 14 t 3 5) 19 0 2 0) t = (0, μ 15 t, μ 16 t, μ 17 t, μ 18 t) := by
    unfold TT
    rw [up_other (by decide), up_ne (by decide), up_ne (by decide), up_ne (by decide), up_same]
    rw [up_k (by decide), up_k (by decide), up_k (by decide), up_k (by decide), up_k (by decide)]
    rw [up_k (by decide), up_k (by decide), up_k (by decide), up_k (by decide), up_k (by decide)]
    rw [up_k (by decide), up_k (by decide), up_k (by decide), up_k (by decide), up_k (by decide)]
    rw [up_k (by decide), up_k (by decide), up_k (by decide), up_k (by decide), up_k (by decide)]
  have q1 : up (up (up (up (up μ 14 t 0 0) 14 t 1 0) 14 t 2 0) 14 t 3 5) 19 0 2 0 14 t 1 = 0 := by rw [up_other (by decide), up_ne (by decide), up_ne (by decide), up_same]
  have q2 : up (up (up (up (up μ 14 t 0 0) 14 t 1 0) 14 t 2 0) 14 t 3 5) 19 0 2 0 14 t 2 = 0 := by rw [up_other (by decide), up_ne (by decide), up_same]
  have q3 : up (up (up (up (up μ 14 t 0 0) 14 t 1 0) 14 t 2 0) 14 t 3 5) 19 0 2 0 14 t 3 = 5 := by rw [up_other (by decide), up_same]
  have c1 := hc.xt t1
  generalize up (up (up (up (up μ 14 t 0 0) 14 t 1 0) 14 t 2 0) 14 t 3 5) 19 0 2 0 = m1 at t1 p1 TT1 q1 q2 q3 c1 ⊢
  generalize eT : ((0, μ 15 t, μ 16 t, μ 17 t, μ 18 t) : TDt) = T0 at h TT1
  have hT0 : T0.1 = 0 := by rw [← eT]
  have q0 : m1 14 t 0 = 0 := (congrArg (·.1) TT1).trans hT0
  have hG : TG T0 0 := ⟨by omega, by omega, by rw [hT0]; rfl, fun c c0 c1 => absurd c1 (by omega)⟩
  have hf0 : fastT T0 = 0 := by unfold fastT; rw [hT0]; rfl
  have hl0 : loudT T0 = 5 := by unfold loudT; rw [hT0]; rfl
  have hcl := clau_sp hx (p := 0) (by omega) (by omega)
  have hcl1 := hcl.1
  refine c_readClause (d := d) c1 hx (by omega) (by omega) (by omega) (fun hb => ?_) (fun hb m2 t2 p2 => ?_) (fun hb m2 t2 p2 T2 l2 f2 u2 => ?_)
  · rw [p1] at hb ⊢
    have := (hcl.2 hb).2.2.1
    omega
  · rw [p1] at hb p2
    have e : townF ch n T0 = (false, (clauF ch 0).2.1, T0, 0) := by unfold townF; rw [if_neg (by rw [hb]; decide)]
    rw [e] at h
    have hq := h m2 (t1.tr t2) p2 (fun q => absurd (show false = true from q) (by decide))
    refine B_Re_readTown_14 (k1 := ?_)
    refine B_Re_readTown_17 (k1 := fun _ _ => hq) (k2 := fun _ z => absurd rfl z) (k3 := fun _ z => absurd rfl z) (k4 := fun _ _ _ => hq) (k5 := fun _ _ z => absurd rfl z) (k6 := fun _ _ z => absurd rfl z) (b1 := fun _ z => absurd rfl z) (b2 := fun _ z => absurd rfl z) (k7 := fun _ z => absurd rfl z) (k8 := fun _ z => absurd rfl z) (k9 := fun _ z => absurd rfl z) (b3 := fun _ z => absurd rfl z) (k10 := fun _ z => absurd rfl z)
  · rw [p1] at hb p2 T2 l2 f2 u2
    rw [TT1, q1] at T2
    rw [q1] at l2
    rw [q2] at f2
    rw [q3] at u2
    obtain ⟨r1, r2, r3, r4, r5⟩ := hcl.2 hb
    have e : townF ch n T0 = textF ch n 9 (clauF ch 0).2.1 (addT T0 0 (clauF ch 0)) (0 + (clauF ch 0).2.2.2.2.length) := by unfold townF; rw [if_pos hb]
    rw [e] at h
    refine B_Re_readTown_14 (k1 := ?_)
    refine l_text (d := d) hx 9 m2 (addT T0 0 (clauF ch 0)) (0 + (clauF ch 0).2.2.2.2.length) (by omega) (c1.xt t2) (by omega) T2 (TG.add hG (by omega) hcl hb (by omega)) (show T0.1 + 1 + ((9 : Nat) : Int) = 10 by omega) (by omega) l2 (by rw [f2, fast_add (by omega), hf0]) (by rw [u2, loud_add (by omega), hl0]) (fun m' t' => ?_)
    rw [p2]
    exact h m' ((t1.tr t2).tr t')
end
