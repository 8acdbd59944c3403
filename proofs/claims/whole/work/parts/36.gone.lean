/-! THE WEEK on both sides. -/
def gStep (T : TDt) (V : Vw) (w p : Int) : Vw := if w = 0 then dayV T (-1) V else if w = 1 then putA V p 1 else if w = 2 then putA V p 0 else putO V p 0
def goneK (T : TDt) (V : Vw) (W P : Int → Int) (k : Int) : Vw := fI (fun V i => gStep T V (W i) (P i)) V k
def goneV (T : TDt) (V : Vw) (W P : Int → Int) (n x : Int) : Int := if x = 0 ∨ x = 1 then wowV x (goneK T V W P n) else -1
def WkOk (W P : Int → Int) (n : Int) : Prop := (0 ≤ n ∧ n ≤ 10) ∧ ∀ k, 0 ≤ k → k < n → (0 ≤ W k ∧ W k ≤ 3) ∧ (W k ≠ 0 → 0 ≤ P k ∧ P k < 6)
theorem VOk.le {B B' : Int} {V : Vw} (h : VOk B V) (hB : B ≤ B') : VOk B' V := ⟨h.1, ⟨h.2.1.1, by have := h.2.1.2; omega⟩, h.2.2⟩
theorem gStep_ok {B w p : Int} {T : TDt} {V : Vw} (hV : VOk B V) : VOk (B + 1) (gStep T V w p) := by
  unfold gStep
  split
  · exact dayV_ok hV
  · split
    · exact VOk.le (putA_ok hV (Or.inr rfl)) (by omega)
    · split
      · exact VOk.le (putA_ok hV (Or.inl rfl)) (by omega)
      · exact VOk.le (putO_ok hV (by omega)) (by omega)
theorem goneK_s {T : TDt} {V : Vw} {W P : Int → Int} {k : Int} (h : 0 ≤ k) : goneK T V W P (k + 1) = gStep T (goneK T V W P k) (W k) (P k) := fI_s h
theorem goneK_ok {B : Int} {T : TDt} {V : Vw} {W P : Int → Int} (hV : VOk B V) : ∀ k, 0 ≤ k → VOk (B + k) (goneK T V W P k) := by
  intro n h0
  obtain ⟨k, rfl⟩ : ∃ k : Nat, n = (k : Int) := ⟨n.toNat, by omega⟩
  induction k with
  | zero => rw [show B + ((0 : Nat) : Int) = B by omega]; exact hV
  | succ k ih =>
    rw [show ((k + 1 : Nat) : Int) = (k : Int) + 1 by omega, goneK_s (by omega), show B + ((k : Int) + 1) = B + k + 1 by omega]
    exact gStep_ok (ih (by omega))
section
variable {g : aG} {d : Nat} {μ m0 : aM} {Q : aQ} {p B a b n pp w x : Int} {T : TDt} {V V' : Vw}
theorem c_P_goRow (hC : CC μ V T) (hv : vC μ 2 = V') (hV : VOk B V') (hB : B ≤ 1000000) (hpp : μ 21 0 5 = -1) (hw : 0 ≤ w ∧ w ≤ 3) (hp : w ≠ 0 → 0 ≤ p ∧ p < 6) (h : ∀ μ', TFr μ μ' → μ' 21 0 5 = -1 → vC μ' 2 = gStep T V' w p → Q none μ') : Cal g (d + 6) m_P_goRow [aR 0 0, aI w, aI p] μ Q := by
  refine T_P_goRow (k1 := fun z => ?_) (k2 := fun z => ?_) (k3 := fun z => ?_) (k4 := fun z1 z2 z3 => ?_) (b1 := fun z => hp (by omega)) (b2 := fun z => hp (by omega)) (b3 := fun z _ _ => hp z)
  · refine Cal_le (show 1 ≤ d + 5 by omega) (c_P_holder (d := 0) hC (fun t hT => B_P_goRow_40 (k1 := ?_)))
    refine c_Mo_goDay hT hC.2.2.1 hv hV hB hpp (fun m hf hm _ => B_P_goRow_43 (k1 := h m hf.T (hf.2.2.trans hpp) ?_))
    unfold gStep; rw [if_pos z]; exact hm
  · refine h _ TFr.rf.u (by rw [up_k (by decide)]; exact hpp) ?_
    unfold gStep; rw [if_neg (by omega), if_pos z, vC_putA, hv]
  · refine h _ TFr.rf.u (by rw [up_k (by decide)]; exact hpp) ?_
    unfold gStep; rw [if_neg (by omega), if_neg (by omega), if_pos z, vC_putA, hv]
  · refine h _ TFr.rf.u (by rw [up_k (by decide)]; exact hpp) ?_
    unfold gStep; rw [if_neg z1, if_neg z2, if_neg z3, vC_putO, hv]
theorem c_P_gone (hC : CC μ V T) (hpp : μ 21 0 5 = -1) (hW : WkOk (μ 11 1) (μ 10 1) (μ 9 1 1)) (h : ∀ μ', QFr μ μ' → Q (some (aI (goneV T V (μ 11 1) (μ 10 1) (μ 9 1 1) x))) μ') : Cal g (d + 7) m_P_gone [aR 0 0, aI x] μ Q := by
  have h0 := h μ ⟨TFr.rf, hpp⟩
  unfold goneV at h h0
  have go : (x = 0 ∨ x = 1) → Cal g (d + 6) m_Cr_become [aR 2 2, aR 2 0] μ (fun rv μ' => Rn g (d + 6) m_P_gone 25 [some (aR 0 0), some (aI x), none, none] (optL rv ++ []) μ' Q) := fun z => by
    rw [if_pos z] at h
    refine Cal_le (show 1 ≤ d + 6 by omega) (c_become (d := 0) (fun m1 hf1 h21 hv1 => B_P_gone_25 (k1 := ?_)))
    refine loopR (n := μ 9 1 1) (fun k (m : aM) => Rn g (d + 6) m_P_gone 35 [some (aR 0 0), some (aI x), some (aR 9 1), some (aI k)] [] m Q) (fun k m => QFr μ m ∧ vC m 2 = goneK T V (μ 11 1) (μ 10 1) k) ?_ ?_ 0 m1 (by omega) hW.1.1 ⟨⟨hf1, (congrFun (congrFun h21 0) 5).trans hpp⟩, hv1.trans hC.1⟩
    · rintro k m k0 hk ⟨⟨hf, h5⟩, hv⟩ ih
      have e9 : m 9 1 1 = μ 9 1 1 := by rw [hf.k]
      have e10 : m 10 1 k = μ 10 1 k := by rw [hf.k]
      have e11 : m 11 1 k = μ 11 1 k := by rw [hf.k]
      have hwk := hW.2 k k0 hk
      have hn := hW.1
      refine B_P_gone_35 (k1 := fun z => absurd z (by omega)) (k2 := fun _ => ?_) (b1 := fun _ => by omega)
      rw [e10, e11]
      refine c_P_goRow (B := 9999 + k) (hC.t hf) hv (goneK_ok hC.2.1 k k0) (by omega) h5 hwk.1 hwk.2 (fun m' hf' h5' hv' => B_P_gone_59 (k1 := ih m' ⟨⟨hf.tr hf', h5'⟩, ?_⟩))
      rw [hv', goneK_s k0]
    · rintro m ⟨⟨hf, h5⟩, hv⟩
      have e9 : m 9 1 1 = μ 9 1 1 := by rw [hf.k]
      have hn := hW.1
      refine B_P_gone_35 (k1 := fun _ => ?_) (k2 := fun z => absurd z (by omega)) (b1 := fun z => absurd z (by omega))
      refine Cal_le (show 2 ≤ d + 6 by omega) (c_Cr_wrongOrSpread (d := 0) (by rw [hv]; exact goneK_ok hC.2.1 _ hn.1) (B_P_gone_73 (k1 := ?_)))
      rw [hv]; exact h m ⟨hf, h5⟩
  refine T_P_gone (k1 := fun z => go (Or.inl z)) (k2 := fun _ z => go (Or.inr z)) (k3 := fun z1 z2 => ?_)
  rw [if_neg (by omega)] at h0; exact h0
end
