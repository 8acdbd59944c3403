/-! apart of the reference, on, who. -/
theorem b_or_rng {x y : Int} : -2147483648 ≤ b_or x y ∧ b_or x y < 2147483648 := by
  unfold b_or
  have h1 := Int32.le_toInt (Int32.ofInt x ||| Int32.ofInt y)
  have h2 := Int32.toInt_lt (Int32.ofInt x ||| Int32.ofInt y)
  omega
theorem b_or_0 {x : Int} (h : -2147483648 ≤ x ∧ x < 2147483648) : b_or x 0 = x := by
  unfold b_or
  rw [show Int32.ofInt 0 = 0 from rfl, Int32.or_zero]
  exact Int32.toInt_ofInt_of_le (by omega) (by omega)
def onV (T : TDt) (V : Vw) (n w : Int) : Int := if w = 0 ∨ w = 1 ∨ (10 ≤ w ∧ w < 10 + vn V) then (if 0 ≤ n ∧ n ≤ 60 then (if w = 0 then worstV (daysV T (-1) V n) else if w = 1 then widthV (daysV T (-1) V n) else vo (daysV T (-1) V n) (w - 10)) else -10002) else -10001
def whoF (T : TDt) (V : Vw) (r k : Int) : Int := fI (fun s p => if rgV T (-1) V p = r then b_or s (b_shl 1 p) else s) 0 k
def whoV (T : TDt) (V : Vw) (r n : Int) : Int := if 1 ≤ r ∧ r ≤ 99 ∧ 0 ≤ n ∧ n ≤ 40 then whoF T (daysV T (-1) V n) r (vn (daysV T (-1) V n)) else -2
theorem whoF_rng {T : TDt} {V : Vw} {r : Int} : ∀ k, 0 ≤ k → -2147483648 ≤ whoF T V r k ∧ whoF T V r k < 2147483648 := by
  intro k h0
  obtain ⟨j, rfl⟩ : ∃ j : Nat, k = (j : Int) := ⟨k.toNat, by omega⟩
  induction j with
  | zero => show -2147483648 ≤ (0 : Int) ∧ (0 : Int) < 2147483648; omega
  | succ j ih =>
    have h1 := ih (by omega)
    unfold whoF at h1 ⊢
    rw [show ((j + 1 : Nat) : Int) = (j : Int) + 1 by omega, fI_s (by omega)]
    split
    · exact b_or_rng
    · exact h1
section
variable {g : aG} {d : Nat} {μ m0 : aM} {Q : aQ} {p B a b n pp w r : Int} {T : TDt} {V : Vw}
theorem c_M_apart (hC : CM μ V T) (h : ∀ μ', KFr μ μ' → Q (some (aI (apartV T V a b n))) μ') : Cal g (d + 8) m_M_apart [aR 31 0, aI a, aI b, aI n] μ Q := by
  have hn := hC.2.1.1
  have hsz := hC.sz
  have h0 := h μ (KFr.rf hC.2.2.2.2)
  unfold apartV at h h0
  refine T_M_apart (k1 := fun z1 => ?_) (k2 := fun z1 z2 z3 => ?_) (k3 := fun z1 z2 z3 z4 => ?_) (k4 := fun z1 z2 z3 z4 => ?_) (k5 := fun z1 z2 => ?_)
  all_goals try rw [hsz] at z1
  all_goals try rw [hsz] at z2
  · rw [if_neg z1] at h0; exact h0
  · rw [if_pos z1, if_pos z2, if_pos z3] at h0; exact h0
  · rw [if_pos z1, if_pos z2, if_neg z3, if_pos z4] at h
    refine Cal_le (show 1 ≤ d + 7 by omega) (c_M_save (d := 0) (fun m1 ht1 hv1 _ h25 => ?_))
    have ha6 : 0 ≤ a ∧ a < 6 := by omega
    have hb6 : 0 ≤ b ∧ b < 6 := by omega
    have hvm : ∀ {m : aM} {k : Int}, vM m = daysV T (-1) V k → m 35 0 a = vo (daysV T (-1) V k) a ∧ m 35 0 b = vo (daysV T (-1) V k) b := fun hv => by rw [← hv]; exact ⟨(vo_M ha6.1 ha6.2).symm, (vo_M hb6.1 hb6.2).symm⟩
    have hor : ∀ {k : Int}, 0 ≤ k → (-999 ≤ vo (daysV T (-1) V k) a ∧ vo (daysV T (-1) V k) a ≤ 999) ∧ (-999 ≤ vo (daysV T (-1) V k) b ∧ vo (daysV T (-1) V k) b ≤ 999) := fun hk => ⟨vok_oOk (daysV_ok (T := T) (pp := -1) hC.2.1 _ hk) a ha6.1 ha6.2, vok_oOk (daysV_ok (T := T) (pp := -1) hC.2.1 _ hk) b hb6.1 hb6.2⟩
    have e0 := hvm (k := 0) (hv1.trans hC.1)
    have o0 := hor (Int.le_refl 0)
    refine B_M_apart_38 (k1 := ?_)
    rw [e0.1, e0.2]
    refine loopR (n := n) (fun k (x : aM × Int) => Rn g (d + 7) m_M_apart 60 [some (aR 31 0), some (aI a), some (aI b), some (aI n), some (aI x.2), some (aI k), none] [] x.1 Q) (fun k x => (Trl μ x.1 ∧ x.1 31 0 25 = -1) ∧ vM x.1 = daysV T (-1) V k ∧ x.2 = fI (fun s k => i_max s (apF T V a b (k + 1))) (apF T V a b 0) k) ?_ ?_ 0 (m1, apF T V a b 0) (by omega) z4.1 ⟨⟨ht1, h25.trans hC.2.2.2.2⟩, hv1.trans hC.1, rfl⟩
    · rintro k ⟨m, x⟩ k0 hk ⟨⟨ht, h5⟩, hv, hx⟩ ih
      dsimp only at ht h5 hv hx ih ⊢
      refine B_M_apart_60 (k1 := fun z => absurd z (by omega)) (k2 := fun _ => ?_)
      refine c_M_goDay (B := 9999 + k) (hC.2.2.2.1.x ht.1) hC.2.2.1 hv (daysV_ok hC.2.1 k k0) (by omega) h5 (fun m' hf' hm' _ => ?_)
      have hv' : vM m' = daysV T (-1) V (k + 1) := by rw [hm', daysV_s k0]
      have e1 := hvm hv'
      have o1 := hor (show 0 ≤ k + 1 by omega)
      have ht' : Trl μ m' ∧ m' 31 0 25 = -1 := ⟨ht.m hf', (hf'.2 25 (by decide) (by decide)).trans h5⟩
      have hst : fI (fun s k => i_max s (apF T V a b (k + 1))) (apF T V a b 0) (k + 1) = i_max x (apF T V a b (k + 1)) := by rw [fI_s k0, ← hx]
      have e2 : i_abs (m' 35 0 a - m' 35 0 b) = apF T V a b (k + 1) := by rw [e1.1, e1.2]; rfl
      have e3 : -999 ≤ m' 35 0 a ∧ m' 35 0 a ≤ 999 := by rw [e1.1]; exact o1.1
      have e4 : -999 ≤ m' 35 0 b ∧ m' 35 0 b ≤ 999 := by rw [e1.2]; exact o1.2
      refine B_M_apart_70 (k1 := fun z => ih (m', x) ⟨ht', hv', ?_⟩) (k2 := fun z => ?_)
      · rw [e2] at z; rw [hst]; unfold i_max; rw [if_neg (by omega)]
      · rw [e2] at z ⊢
        exact ih (m', apF T V a b (k + 1)) ⟨ht', hv', by rw [hst]; unfold i_max; rw [if_pos z]⟩
    · rintro ⟨m, x⟩ ⟨⟨ht, h5⟩, hv, hx⟩
      dsimp only at ht hv hx ⊢
      refine B_M_apart_60 (k1 := fun _ => Cal_le (show 1 ≤ d + 7 by omega) (c_M_putBack (d := 0) ht (fun m' hk => B_M_apart_115 (k1 := ?_)))) (k2 := fun z => absurd z (by omega))
      rw [hx]; exact h m' hk
  · rw [if_pos z1, if_pos z2, if_neg z3, if_neg z4] at h0; exact h0
  · rw [if_pos z1, if_neg z2] at h0; exact h0
theorem w_far (h1 : -2147483648 ≤ w) (h2 : w < -2147483638) : w32 (w - 10) = w - 10 + 4294967296 := by
  unfold w32; omega
end
