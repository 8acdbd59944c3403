/-! can on both sides. -/
def canP (T : TDt) (V : Vw) (p : Int) (W O D : Int → Int) (n k : Int) : Bool := seenB T (putN V p (9 - k)) W O D n
def canV (T : TDt) (V : Vw) (W O D : Int → Int) (n p w : Int) : Int := if (0 ≤ p ∧ p < vn V) ∧ (0 ≤ w ∧ w ≤ 1) then (if w = 0 then (cntF (canP T V p W O D n) (fun k => 9 - k) (-5) 10).1 else (cntF (canP T V p W O D n) (fun k => 9 - k) (-5) 10).2) else -1
theorem putN_putN {V : Vw} {p y z : Int} : putN (putN V p y) p z = putN V p z := by
  refine congrArg (setN V) (t6_ext fun i h0 h6 => ?_)
  show pu (t6 (pu (vv V) p y)) p z i = pu (vv V) p z i
  unfold pu
  by_cases e : i = p
  · rw [if_pos e, if_pos e]
  · rw [if_neg e, if_neg e, t6_in h0 h6]
    show pu (vv V) p y i = vv V i
    unfold pu; rw [if_neg e]
section
variable {g : aG} {d : Nat} {μ m0 : aM} {Q : aQ} {p B a b n pp w x : Int} {T : TDt} {V V' : Vw}
theorem c_P_can (hC : CC μ V T) (hpp : μ 21 0 5 = -1) (hS : SnOk (μ 10 0) (μ 12 0) (μ 9 0 1)) (h : ∀ μ', QFr μ μ' → Q (some (aI (canV T V (μ 10 0) (μ 11 0) (μ 12 0) (μ 9 0 1) p w))) μ') : Cal g (d + 7) m_P_can [aR 0 0, aI p, aI w] μ Q := by
  have hn := hC.2.1.1
  have hsz := hC.sz
  have h0 := h μ ⟨TFr.rf, hpp⟩
  unfold canV at h h0
  refine T_P_can (k1 := fun z => ?_) (k2 := fun _ z => ?_) (k3 := fun z1 z2 z3 => ?_) (k4 := fun _ _ z => ?_)
  · rw [if_neg (by omega)] at h0; exact h0
  · rw [if_neg (by omega)] at h0; exact h0
  · rw [if_pos (by omega)] at h
    refine loopR (n := 10) (fun k (y : aM × Int × Int) => Rn g (d + 6) m_P_can 29 [some (aR 0 0), some (aI p), some (aI w), some (aI y.2.1), some (aI y.2.2), some (aI (9 - k))] [] y.1 Q) (fun k y => QFr μ y.1 ∧ y.2 = cntF (canP T V p (μ 10 0) (μ 11 0) (μ 12 0) (μ 9 0 1)) (fun k => 9 - k) (-5) k) ?_ ?_ 0 (μ, 0, -5) (by omega) (by omega) ⟨⟨TFr.rf, hpp⟩, rfl⟩
    · rintro k ⟨m, y1, y2⟩ k0 hk ⟨⟨hf, h5⟩, hy⟩ ih
      dsimp only at hf h5 hy ih ⊢
      have hst := cnt_s (P := canP T V p (μ 10 0) (μ 11 0) (μ 12 0) (μ 9 0 1)) (v := fun k => 9 - k) (nv := -5) k0
      have hrg := cnt_rng (P := canP T V p (μ 10 0) (μ 11 0) (μ 12 0) (μ 9 0 1)) (v := fun k => 9 - k) (nv := -5) k k0
      rw [← hy] at hst hrg
      dsimp only at hst hrg
      refine B_P_can_29 (k1 := fun z => absurd z (by omega)) (k2 := fun z => absurd z (by omega)) (k3 := fun _ => Cal_le (show 1 ≤ d + 6 by omega) (c_become (d := 0) (fun m1 hf1 h21 hv1 => B_P_can_48 (k1 := ?_))))
      have hf2 : TFr μ (up m1 4 2 p (9 - k)) := (hf.tr hf1).u
      have e9 : (up m1 4 2 p (9 - k)) 9 = μ 9 := hf2.k
      have e10 : (up m1 4 2 p (9 - k)) 10 = μ 10 := hf2.k
      have e11 : (up m1 4 2 p (9 - k)) 11 = μ 11 := hf2.k
      have e12 : (up m1 4 2 p (9 - k)) 12 = μ 12 := hf2.k
      refine c_P_isAsSeen (V' := putN V p (9 - k)) (hC.t hf2) (by rw [vC_putN, hv1, (hC.t hf).1]) (putN_ok hC.2.1 (by omega)) (by rw [up_k (by decide), h21]; exact h5) (by rw [e9, e10, e12]; exact hS) (fun m2 hf3 => ?_)
      rw [e9, e10, e11, e12]
      have hf4 : QFr μ m2 := ⟨hf2.tr hf3.1, hf3.2⟩
      refine B_P_can_63 (k1 := fun z => ?_) (k2 := fun z => ?_)
      · have hb : canP T V p (μ 10 0) (μ 11 0) (μ 12 0) (μ 9 0 1) k = false := b2_eq z
        have := ih (m2, y1, y2) ⟨hf4, by rw [hst, hb]; rfl⟩
        rw [show 9 - (k + 1) = 9 - k + -1 by omega] at this; exact this
      · have hb : canP T V p (μ 10 0) (μ 11 0) (μ 12 0) (μ 9 0 1) k = true := b2_ne z
        have := ih (m2, y1 + 1, 9 - k) ⟨hf4, by rw [hst, if_pos hb]⟩
        rw [show 9 - (k + 1) = 9 - k + -1 by omega] at this; exact this
    · rintro ⟨m, y1, y2⟩ ⟨hf, hy⟩
      dsimp only at hf hy ⊢
      have := h m hf
      rw [← hy] at this
      refine B_P_can_29 (k1 := fun _ z => ?_) (k2 := fun _ z => ?_) (k3 := fun z => absurd z (by decide))
      · rw [if_neg z] at this; exact this
      · rw [if_pos z] at this; exact this
  · rw [if_neg (by omega)] at h0; exact h0
end
