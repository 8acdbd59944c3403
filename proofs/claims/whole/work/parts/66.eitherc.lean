/-! The class reads an E: what is nested. -/
def PC (g : aG) (ch : Int → Int) (n t : Int) (P : Int → Rs) (D id : Nat) (w : Int) : Prop := ∀ (μ : aM) (Q : aQ), CTx μ ch n → (0 ≤ μ 14 t 1 ∧ μ 14 t 1 ≤ 100) → (0 ≤ μ 19 0 2 ∧ μ 19 0 2 ≤ n) → (∀ m c, KP t μ m c → m 19 0 2 = (P (μ 19 0 2)).2.1 → ((P (μ 19 0 2)).1 = true → c = (P (μ 19 0 2)).2.2) → Q (some (aI (b2 (P (μ 19 0 2)).1))) m) → Cal g D id [aR 19 0, aR 14 t, aI w] μ Q
section
variable {g : aG} {d : Nat} {μ m0 : aM} {Q : aQ} {x f a b k v i t dep n p w W : Int} {ch : Int → Int} {P : Int → Rs}
theorem ei_fail {m : aM} {y z : Int} (hl : 0 ≤ m 14 t 1 ∧ m 14 t 1 ≤ 100) (h : ∀ m' c, KP t m m' c → m' 19 0 2 = m 19 0 2 → Q (some (aI 0)) m') : Rn g (d + 2) m_Re_readEither 13 [some (aR 19 0), some (aR 14 t), some (aI w), some (aI 0), some (aI y), some (aI z), none] [] m Q := by
  have em : Cal g (d + 2) m_To_emit [aR 14 t, aI (-3)] m (fun rv μ' => Rn g (d + 2) m_Re_readEither 114 [some (aR 19 0), some (aR 14 t), some (aI w), some (aI 0), some (aI y), some (aI z), none] (optL rv ++ []) μ' Q) :=
    Cal_le (show 1 ≤ d + 2 by omega) (c_emit (d := 0) hl (fun m1 k1 p1 => B_Re_readEither_114 (b1 := Or.inl rfl) (k1 := h m1 _ k1 p1)))
  exact B_Re_readEither_13 (b1 := fun _ _ => Or.inl rfl) (k1 := fun _ _ => h m [] KP.rf rfl) (k2 := fun _ _ => em) (b2 := fun _ _ _ => Or.inl rfl) (k3 := fun _ _ _ => h m [] KP.rf rfl) (k4 := fun _ _ _ => em) (b3 := fun _ z => absurd rfl z) (b4 := fun _ z => absurd rfl z) (k5 := fun _ z => absurd rfl z) (b5 := fun _ z => absurd rfl z) (b6 := fun _ z => absurd rfl z) (b7 := fun _ z => absurd rfl z) (k6 := fun _ z => absurd rfl z) (k7 := fun _ z => absurd rfl z) (k8 := fun _ z => absurd rfl z)
theorem ei_done {m : aM} {z : Int} {o : Bool} (hl : 0 ≤ m 14 t 1 ∧ m 14 t 1 ≤ 100) (h : ∀ m', KP t m m' (if o = true then [-3] else []) → m' 19 0 2 = m 19 0 2 → Q (some (aI 1)) m') : (b2 o = 0 → Q (some (aI 1)) m) ∧ (b2 o ≠ 0 → Cal g (d + 2) m_To_emit [aR 14 t, aI (-3)] m (fun rv μ' => Rn g (d + 2) m_Re_readEither 114 [some (aR 19 0), some (aR 14 t), some (aI w), some (aI 1), some (aI (b2 o)), some (aI z), none] (optL rv ++ []) μ' Q)) := by
  cases o
  · exact ⟨fun _ => h m KP.rf rfl, fun z => absurd rfl z⟩
  · exact ⟨fun z => absurd z (by decide), fun _ => Cal_le (show 1 ≤ d + 2 by omega) (c_emit (d := 0) hl (fun m1 k1 p1 => B_Re_readEither_114 (b1 := Or.inr rfl) (k1 := h m1 k1 p1)))⟩
theorem ei_loop (hx : Txt ch n) (hW : 0 ≤ W) (hg : ∀ p, 0 ≤ p → p ≤ n → Gd n p W (P p)) (hP : PC g ch n t P (d + 2) m_Re_readPart w) : ∀ (f : Nat) (m : aM) (c : List Int) (o : Bool), f ≤ 100 → KP t μ m c → CTx μ ch n → (0 ≤ μ 14 t 1 ∧ μ 14 t 1 ≤ 100) → (0 ≤ m 19 0 2 ∧ m 19 0 2 ≤ n) → (∀ m' c', KP t μ m' c' → m' 19 0 2 = (loopF ch P f (m 19 0 2) c o).2.1 → ((loopF ch P f (m 19 0 2) c o).1 = true → c' = (loopF ch P f (m 19 0 2) c o).2.2) → Q (some (aI (b2 (loopF ch P f (m 19 0 2) c o).1))) m') → Rn g (d + 2) m_Re_readEither 13 [some (aR 19 0), some (aR 14 t), some (aI w), some (aI 1), some (aI (b2 o)), some (aI (100 - (f : Int))), none] [] m Q := by
  intro f
  induction f with
  | zero =>
    intro m c o _ km hc hl hp h
    have hl' := km.ln hl
    obtain ⟨q1, q2⟩ := ei_done (g := g) (d := d) (w := w) (Q := Q) (z := 100 - ((0 : Nat) : Int)) (o := o) hl' (fun m' k' p' => h m' _ (km.tr k') p' (fun _ => rfl))
    exact B_Re_readEither_13 (b1 := fun _ _ => Or.inr rfl) (k1 := fun _ z => q1 z) (k2 := fun _ z => q2 z) (b2 := fun z => absurd z (by omega)) (k3 := fun z => absurd z (by omega)) (k4 := fun z => absurd z (by omega)) (b3 := fun z => absurd z (by omega)) (b4 := fun z => absurd z (by omega)) (k5 := fun z => absurd z (by omega)) (b5 := fun z => absurd z (by omega)) (b6 := fun z => absurd z (by omega)) (b7 := fun z => absurd z (by omega)) (k6 := fun z => absurd z (by omega)) (k7 := fun z => absurd z (by omega)) (k8 := fun z => absurd z (by omega))
  | succ f ih =>
    intro m c o hf km hc hl hp h
    have hl' := km.ln hl
    have cm := km.ct hc
    have cn := cm.1
    have hx1 := hx.1
    have ec : 100 - ((f + 1 : Nat) : Int) + 1 = 100 - (f : Int) := by omega
    have i38 := cm.at hx hp.1 (c := 38) (by omega)
    have i124 := cm.at hx hp.1 (c := 124) (by omega)
    -- behind an operator
    have go : ∀ (m1 : aM) (c1 : List Int) (o' : Bool) (y s : Int), KP t μ m1 c1 → m1 19 0 2 = m 19 0 2 + 1 → m 19 0 2 + 1 ≤ n → (s = 0 ∧ o' = true ∨ s = 1) → y = b2 o' →
        ((P (m 19 0 2 + 1)).1 = false → (loopF ch P (f + 1) (m 19 0 2) c o) = (false, (P (m 19 0 2 + 1)).2.1, [])) →
        ((P (m 19 0 2 + 1)).1 = true → (loopF ch P (f + 1) (m 19 0 2) c o) = loopF ch P f (P (m 19 0 2 + 1)).2.1 (c1 ++ ((P (m 19 0 2 + 1)).2.2 ++ (if s = 1 then [-2] else []))) o') →
        Cal g (d + 2) m_Re_readPart [aR 19 0, aR 14 t, aI w] m1 (fun rv μ' => Rn g (d + 2) m_Re_readEither 85 [some (aR 19 0), some (aR 14 t), some (aI w), some (aI 1), some (aI y), some (aI (100 - ((f + 1 : Nat) : Int))), some (aI s)] (optL rv ++ []) μ' Q) := by
      intro m1 c1 o' y s k1 p1 pn hs hy hF hT
      subst hy
      have l1 := k1.ln hl
      refine hP m1 _ (k1.ct hc) l1 (by omega) (fun m2 c2 k2 p2 ok2 => ?_)
      rw [p1] at p2 ok2 ⊢
      have hgd := (hg (m 19 0 2 + 1) (by omega) pn).1
      have k12 := k1.tr k2
      have l2 := k12.ln hl
      cases hb : (P (m 19 0 2 + 1)).1
      · -- it failed
        rw [hF hb] at h
        have ff : ∀ (m3 : aM) (c3 : List Int) (yy zz : Int), KP t μ m3 c3 → m3 19 0 2 = (P (m 19 0 2 + 1)).2.1 → Rn g (d + 2) m_Re_readEither 13 [some (aR 19 0), some (aR 14 t), some (aI w), some (aI 0), some (aI yy), some (aI zz), none] [] m3 Q := fun m3 c3 yy zz k3 p3 =>
          ei_fail (k3.ln hl) (fun m4 c4 k4 p4 => h m4 _ (k3.tr k4) (p4.trans p3) (fun z => absurd (show false = true from z) (by decide)))
        rcases hs with ⟨hs, ho⟩ | hs
        · subst hs
          exact B_Re_readEither_85 (b1 := fun _ => by omega) (k1 := fun _ => ff m2 _ _ _ k12 p2) (k2 := fun z => absurd rfl z)
        · subst hs
          refine B_Re_readEither_85 (b1 := fun _ => by omega) (k1 := fun z => absurd z (by decide)) (k2 := fun _ => Cal_le (show 1 ≤ d + 2 by omega) (c_emit (d := 0) l2 (fun m3 k3 p3 => B_Re_readEither_97 (b1 := by omega) (k1 := ff m3 _ _ _ (k12.tr k3) (p3.trans p2)))))
      · rw [hT hb] at h
        have c2e := ok2 hb
        subst c2e
        rcases hs with ⟨hs, ho⟩ | hs
        · subst hs
          refine B_Re_readEither_85 (b1 := fun _ => by omega) (k1 := fun _ => ?_) (k2 := fun z => absurd rfl z)
          rw [ec]
          rw [if_neg (show ¬ ((0 : Int) = 1) by decide), List.append_nil] at h
          refine ih m2 _ o' (by omega) k12 hc hl (by omega) ?_
          rw [p2]; exact h
        · subst hs
          refine B_Re_readEither_85 (b1 := fun _ => by omega) (k1 := fun z => absurd z (by decide)) (k2 := fun _ => Cal_le (show 1 ≤ d + 2 by omega) (c_emit (d := 0) l2 (fun m3 k3 p3 => B_Re_readEither_97 (b1 := by omega) (k1 := ?_))))
          rw [ec]
          rw [if_pos rfl] at h
          have k123 := k1.tr (k2.tr k3)
          refine ih m3 _ o' (by omega) k123 hc hl (by omega) ?_
          rw [p3, p2]; exact h
    refine B_Re_readEither_13 (b1 := fun z => absurd z (by omega)) (k1 := fun z => absurd z (by omega)) (k2 := fun z => absurd z (by omega)) (b2 := fun _ z => absurd z (by decide)) (k3 := fun _ z => absurd z (by decide)) (k4 := fun _ z => absurd z (by decide)) (b3 := fun _ _ => hp.1) (b4 := fun _ _ => by omega) (k5 := fun _ _ z => ?_) (b5 := fun _ _ _ => hp.1) (b6 := fun _ _ _ => by omega) (b7 := fun _ _ _ _ _ => Or.inr rfl) (k6 := fun _ _ z1 z2 z3 => ?_) (k7 := fun _ _ z1 z2 z3 => ?_) (k8 := fun _ _ z1 z2 => ?_)
    · have e := i38.1 z
      have l1 := hx.lt (p := m 19 0 2) (by omega)
      refine Cal_le (show 2 ≤ d + 2 by omega) (c_take (d := 0) cm hx hp.1 (by omega) (fun _ => B_Re_readEither_48 (b1 := fun z => absurd z (by decide)) (k1 := fun _ => ?_) (k2 := fun z => absurd z (by decide)) (k3 := fun z => absurd z (by decide))) (fun z => absurd e z))
      refine go _ c o _ 1 km.pl up_same (by omega) (Or.inr rfl) rfl (fun hb => ?_) (fun hb => ?_)
      · show (if ch (m 19 0 2) = 38 then _ else _) = _
        rw [if_pos e, if_neg (by rw [hb]; decide)]
      · show (if ch (m 19 0 2) = 38 then _ else _) = _
        rw [if_pos e, if_pos hb, if_pos rfl]
    · have n1 : ¬ ch (m 19 0 2) = 38 := fun y => z1 (i38.2 y)
      have n2 : ¬ ch (m 19 0 2) = 124 := fun y => z2 (i124.2 y)
      have e : loopF ch P (f + 1) (m 19 0 2) c o = (true, m 19 0 2, c ++ (if o = true then [-3] else [])) := by
        show (if ch (m 19 0 2) = 38 then _ else _) = _
        rw [if_neg n1, if_neg n2]
      rw [e] at h
      exact (ei_done (g := g) (d := d) (w := w) (Q := Q) (z := 0) (o := o) hl' (fun m' k' p' => h m' _ (km.tr k') p' (fun _ => rfl))).1 z3
    · have n1 : ¬ ch (m 19 0 2) = 38 := fun y => z1 (i38.2 y)
      have n2 : ¬ ch (m 19 0 2) = 124 := fun y => z2 (i124.2 y)
      have e : loopF ch P (f + 1) (m 19 0 2) c o = (true, m 19 0 2, c ++ (if o = true then [-3] else [])) := by
        show (if ch (m 19 0 2) = 38 then _ else _) = _
        rw [if_neg n1, if_neg n2]
      rw [e] at h
      exact (ei_done (g := g) (d := d) (w := w) (Q := Q) (z := _) (o := o) hl' (fun m' k' p' => h m' _ (km.tr k') p' (fun _ => rfl))).2 z3
    · have n1 : ¬ ch (m 19 0 2) = 38 := fun y => z1 (i38.2 y)
      have e := i124.1 z2
      have l1 := hx.lt (p := m 19 0 2) (by omega)
      have hF : (P (m 19 0 2 + 1)).1 = false → (loopF ch P (f + 1) (m 19 0 2) c o) = (false, (P (m 19 0 2 + 1)).2.1, []) := fun hb => by
        show (if ch (m 19 0 2) = 38 then _ else _) = _
        rw [if_neg n1, if_pos e, if_neg (by rw [hb]; decide)]
      have hT : (P (m 19 0 2 + 1)).1 = true → (loopF ch P (f + 1) (m 19 0 2) c o) = loopF ch P f (P (m 19 0 2 + 1)).2.1 (c ++ ((if o = true then [-3] else []) ++ (P (m 19 0 2 + 1)).2.2)) true := fun hb => by
        show (if ch (m 19 0 2) = 38 then _ else _) = _
        rw [if_neg n1, if_pos e, if_pos hb]
      refine Cal_le (show 2 ≤ d + 2 by omega) (c_take (d := 0) cm hx hp.1 (by omega) (fun z => absurd z n1) (fun _ => B_Re_readEither_48 (b1 := fun _ => by omega) (k1 := fun z => absurd rfl z) (k2 := fun _ z => ?_) (k3 := fun _ z => ?_)))
      · cases o
        · refine go _ c true 1 0 km.pl up_same (by omega) (Or.inl ⟨rfl, rfl⟩) rfl hF (fun hb => ?_)
          rw [hT hb, if_neg (show ¬ ((0 : Int) = 1) by decide), List.append_nil]; rfl
        · exact absurd z (by decide)
      · cases o
        · exact absurd rfl z
        · have lu := (km.pl (x := m 19 0 2 + 1)).ln hl
          refine Cal_le (show 1 ≤ d + 2 by omega) (c_emit (d := 0) lu (fun m3 k3 p3 => B_Re_readEither_76 (k1 := ?_)))
          refine go m3 (c ++ [-3]) true 1 0 (km.pl.tr k3) (by rw [p3, up_same]) (by omega) (Or.inl ⟨rfl, rfl⟩) rfl hF (fun hb => ?_)
          rw [hT hb, if_pos rfl, if_neg (show ¬ ((0 : Int) = 1) by decide), List.append_nil, List.append_assoc]
theorem either_pc (hx : Txt ch n) (hW : 0 ≤ W) (hg : ∀ p, 0 ≤ p → p ≤ n → Gd n p W (P p)) (hP : PC g ch n t P (d + 2) m_Re_readPart w) : PC g ch n t (eithF ch P) (d + 3) m_Re_readEither w := by
  intro μ Q hc hl h0 h
  refine T_Re_readEither (d := d) (k1 := hP μ _ hc hl h0 (fun m c km pm ok => B_Re_readEither_6 (k1 := ?_)))
  have hgd := (hg (μ 19 0 2) h0.1 h0.2).1
  unfold eithF at h
  cases hb : (P (μ 19 0 2)).1
  · rw [if_neg (by rw [hb]; decide)] at h
    exact ei_fail (km.ln hl) (fun m4 c4 k4 p4 => h m4 _ (km.tr k4) (p4.trans pm) (fun z => absurd (show false = true from z) (by decide)))
  · rw [if_pos hb] at h
    have ce := ok hb
    subst ce
    have := ei_loop (g := g) (d := d) (w := w) (Q := Q) hx hW hg hP 100 m _ false (by omega) km hc hl (by omega) (by rw [pm]; exact h)
    exact this
/-- readPart at every depth -/
theorem part_pc (hx : Txt ch n) : ∀ (v : Nat), v ≤ 4 → PC g ch n t (partF ch v) (d + 7 + 2 * v) m_Re_readPart (4 - (v : Int)) := by
  intro v
  induction v with
  | zero =>
    intro _ μ Q hc hl h0 h
    have te : ∀ x3 : Int, Cal g (d + 6) m_Re_readTest [aR 19 0, aR 14 t] μ (fun rv μ' => Rn g (d + 6) m_Re_readPart 86 [some (aR 19 0), some (aR 14 t), some (aI 4), some (aI x3), none] (optL rv ++ []) μ' Q) := fun x3 =>
      c_readTest hc hx hl h0 (fun m c km pm ok => B_Re_readPart_86 (b1 := b2_01 _) (k1 := h m c km pm ok))
    show Cal g (d + 7) m_Re_readPart [aR 19 0, aR 14 t, aI (4 - ((0 : Nat) : Int))] μ Q
    rw [show 4 - ((0 : Nat) : Int) = 4 by omega]
    exact T_Re_readPart (d := d) (k1 := fun _ _ _ => te 0) (k2 := fun _ _ z => absurd rfl z) (k3 := fun _ z => absurd rfl z) (k4 := fun z => absurd z (by omega)) (k5 := fun z => absurd z (by omega)) (k6 := fun z => absurd z (by omega))
  | succ v ih =>
    intro hv μ Q hc hl h0 h
    have ihv := ih (by omega)
    have hx1 := hx.1
    have hgv : ∀ p, 0 ≤ p → p ≤ n → Gd n p 40 (partF ch v p) := fun p p0 p1 => (part_gd hx v (by omega) p p0 p1).mono (by omega)
    have ei := either_pc (g := g) (d := d + 5 + 2 * v) (t := t) (w := 4 - (v : Int)) hx (by omega) hgv (by have q := ihv; rw [show d + 5 + 2 * v + 2 = d + 7 + 2 * v by omega]; exact q)
    rw [show d + 5 + 2 * v + 3 = d + 2 + 2 * v + 6 by omega] at ei
    have ew : 4 - ((v + 1 : Nat) : Int) + 1 = 4 - (v : Int) := by omega
    rw [show d + 7 + 2 * (v + 1) = d + 2 + 2 * v + 7 by omega]
    have te : ch (μ 19 0 2) ≠ 33 → ch (μ 19 0 2) ≠ 40 → Cal g (d + 2 + 2 * v + 6) m_Re_readTest [aR 19 0, aR 14 t] μ (fun rv μ' => Rn g (d + 2 + 2 * v + 6) m_Re_readPart 86 [some (aR 19 0), some (aR 14 t), some (aI (4 - ((v + 1 : Nat) : Int))), some (aI 1), none] (optL rv ++ []) μ' Q) := fun n1 n2 => by
      have e : partF ch (v + 1) (μ 19 0 2) = testF ch (μ 19 0 2) := by
        show (if ch (μ 19 0 2) = 33 then _ else _) = _
        rw [if_neg n1, if_neg n2]
      rw [e] at h
      exact c_readTest hc hx hl h0 (fun m c km pm ok => B_Re_readPart_86 (b1 := b2_01 _) (k1 := h m c km pm ok))
    refine T_Re_readPart (d := d + 2 + 2 * v) (k1 := fun z => absurd z (by omega)) (k2 := fun z => absurd z (by omega)) (k3 := fun z => absurd z (by omega)) (k4 := fun _ z => absurd z (by decide)) (k5 := fun _ z => absurd z (by decide)) (k6 := fun _ _ => ?_)
    refine Cal_le (show 2 ≤ d + 2 + 2 * v + 6 by omega) (c_take (d := 0) hc hx h0.1 (by omega) (fun e1 => ?_) (fun n1 => ?_))
    · -- a '!'
      have l1 := hx.lt (p := μ 19 0 2) (by omega)
      refine B_Re_readPart_21 (k1 := fun z => absurd z (by decide)) (k2 := fun z => absurd z (by decide)) (b1 := fun _ => by omega) (k3 := fun _ => ?_)
      rw [ew]
      have ku : KP t μ (up μ 19 0 2 (μ 19 0 2 + 1)) [] := KP.rf.pl
      refine Cal_le (show d + 7 + 2 * v ≤ d + 2 + 2 * v + 6 by omega) (ihv _ _ (ku.ct hc) (ku.ln hl) (by rw [up_same]; omega) (fun m c km pm ok => B_Re_readPart_32 (k1 := ?_)))
      rw [up_same] at pm ok ⊢
      have k2 := ku.tr km
      refine Cal_le (show 1 ≤ d + 2 + 2 * v + 6 by omega) (c_emit (d := 0) (k2.ln hl) (fun m3 k3 p3 => B_Re_readPart_39 (b1 := b2_01 _) (k1 := ?_)))
      have k4 := k2.tr k3
      cases hb : (partF ch v (μ 19 0 2 + 1)).1
      · have e : partF ch (v + 1) (μ 19 0 2) = (false, (partF ch v (μ 19 0 2 + 1)).2.1, []) := by
          show (if ch (μ 19 0 2) = 33 then _ else _) = _
          rw [if_pos e1, if_neg (by rw [hb]; decide)]
        rw [e] at h
        exact h m3 _ k4 (p3.trans pm) (fun z => absurd (show false = true from z) (by decide))
      · have e : partF ch (v + 1) (μ 19 0 2) = (true, (partF ch v (μ 19 0 2 + 1)).2.1, (partF ch v (μ 19 0 2 + 1)).2.2 ++ [-1]) := by
          show (if ch (μ 19 0 2) = 33 then _ else _) = _
          rw [if_pos e1, if_pos hb]
        rw [e] at h
        exact h m3 _ k4 (p3.trans pm) (fun _ => by rw [ok hb]; rfl)
    · refine B_Re_readPart_21 (k1 := fun _ z => absurd z (by decide)) (k2 := fun _ _ => ?_) (b1 := fun z => absurd rfl z) (k3 := fun z => absurd rfl z)
      refine Cal_le (show 2 ≤ d + 2 + 2 * v + 6 by omega) (c_take (d := 0) hc hx h0.1 (by omega) (fun e2 => ?_) (fun n2 => ?_))
      · -- a '('
        have l1 := hx.lt (p := μ 19 0 2) (by omega)
        refine B_Re_readPart_52 (k1 := fun z => absurd z (by decide)) (b1 := fun _ => by omega) (k2 := fun _ => ?_)
        rw [ew]
        have ku : KP t μ (up μ 19 0 2 (μ 19 0 2 + 1)) [] := KP.rf.pl
        refine ei _ _ (ku.ct hc) (ku.ln hl) (by rw [up_same]; omega) (fun m c km pm ok => ?_)
        rw [up_same] at pm ok ⊢
        have k2 := ku.tr km
        have hge := (eith_gd hx (w := 30) (by omega) (fun q q0 q1 => (hgv q q0 q1).mono (by omega)) (show 0 ≤ μ 19 0 2 + 1 by omega) (by omega)).1
        cases hb : (eithF ch (partF ch v) (μ 19 0 2 + 1)).1
        · have e : partF ch (v + 1) (μ 19 0 2) = (false, (eithF ch (partF ch v) (μ 19 0 2 + 1)).2.1, []) := by
            show (if ch (μ 19 0 2) = 33 then _ else _) = _
            rw [if_neg n1, if_pos e2, if_neg (by rw [hb]; decide)]
          rw [e] at h
          exact B_Re_readPart_63 (k1 := fun _ => h m _ k2 pm (fun z => absurd (show false = true from z) (by decide))) (k2 := fun z => absurd rfl z)
        · refine B_Re_readPart_63 (k1 := fun z => absurd z (by decide)) (k2 := fun _ => ?_)
          refine Cal_le (show 2 ≤ d + 2 + 2 * v + 6 by omega) (c_take (d := 0) (k2.ct hc) hx (by omega) (by omega) (fun e3 => ?_) (fun n3 => ?_))
          · rw [pm] at e3
            have e : partF ch (v + 1) (μ 19 0 2) = (true, (eithF ch (partF ch v) (μ 19 0 2 + 1)).2.1 + 1, (eithF ch (partF ch v) (μ 19 0 2 + 1)).2.2) := by
              show (if ch (μ 19 0 2) = 33 then _ else _) = _
              rw [if_neg n1, if_pos e2, if_pos hb, if_pos e3]
            rw [e] at h
            exact B_Re_readPart_72 (k1 := fun z => absurd z (by decide)) (k2 := fun _ => h _ _ k2.pl (by rw [up_same, pm]) (fun _ => by rw [ok hb]; rfl))
          · rw [pm] at n3
            have e : partF ch (v + 1) (μ 19 0 2) = (false, (eithF ch (partF ch v) (μ 19 0 2 + 1)).2.1, []) := by
              show (if ch (μ 19 0 2) = 33 then _ else _) = _
              rw [if_neg n1, if_pos e2, if_pos hb, if_neg n3]
            rw [e] at h
            exact B_Re_readPart_72 (k1 := fun _ => h m _ k2 pm (fun z => absurd (show false = true from z) (by decide))) (k2 := fun z => absurd rfl z)
      · exact B_Re_readPart_52 (k1 := fun _ => te n1 n2) (b1 := fun z => absurd rfl z) (k2 := fun z => absurd rfl z)
end
