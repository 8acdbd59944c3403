/-! town, called of both. -/
section
variable {g : aG} {d : Nat} {μ m0 : aM} {Q : aQ} {x f a b t c n p w o l fr : Int} {ch : Int → Int} {P : Int → Rs} {T : TDt}
theorem j_town (hI : Inv μ) : Pair g 40 m_P_town m_M_town [] μ := by
  intro Q h
  obtain ⟨w1, w2, w3, w4, w5⟩ := hI.tw
  obtain ⟨x1, x2, x3⟩ := hI.tx
  have hho := hI.ho
  by_cases e6 : μ 0 0 5 < 6
  · -- the text
    have hx : Txt (fun p => if 0 ≤ p ∧ p < μ 19 0 1 then μ 20 0 p else -1) (μ 19 0 1) := ⟨x2, fun p p0 p1 => by
      show 0 ≤ (if 0 ≤ p ∧ p < μ 19 0 1 then μ 20 0 p else -1) ∧ (if 0 ≤ p ∧ p < μ 19 0 1 then μ 20 0 p else -1) ≤ 127
      rw [if_pos ⟨p0, p1⟩]; exact (x3 p p0 p1).2, fun p p0 => by
      show (if 0 ≤ p ∧ p < μ 19 0 1 then μ 20 0 p else -1) = -1
      rw [if_neg (by omega)]⟩
    have hc : CTx μ (fun p => if 0 ≤ p ∧ p < μ 19 0 1 then μ 20 0 p else -1) (μ 19 0 1) := ⟨rfl, fun p p0 p1 => (if_pos ⟨p0, p1⟩).symm⟩
    have hm : ∀ p, 0 ≤ p → p < μ 19 0 1 → μ 37 0 p = (fun p => if 0 ≤ p ∧ p < μ 19 0 1 then μ 20 0 p else -1) p := fun p p0 p1 => by
      show _ = if 0 ≤ p ∧ p < μ 19 0 1 then μ 20 0 p else -1
      rw [if_pos ⟨p0, p1⟩]; exact (x3 p p0 p1).1
    generalize (fun p => if 0 ≤ p ∧ p < μ 19 0 1 then μ 20 0 p else -1) = ch at hx hc hm
    generalize en : μ 19 0 1 = n at hx hc hm x1 x2
    generalize et : μ 0 0 5 = t at w1 w2 w3 e6
    refine T_P_town (d := 31) (b1 := by intros; omega) (k1 := fun _ => ?_) (k2 := fun z => absurd z (by omega))
    rw [et]
    refine Cal_le (show 18 ≤ 39 by omega) (c_readTown (d := 0) hc hx (fun m1 t1 p1 ok1 => ?_))
    have ht0 : m1 0 0 5 = t := by rw [t1 0 0 5 (xt_hi (by decide))]; exact et
    have h31 : m1 31 = μ 31 := funext fun i => funext fun j => t1 31 i j (xt_hi (by decide))
    have mtx : ∀ z, MTx (up m1 19 0 1 z) ch n := fun z => ⟨by rw [up_other (by decide), h31]; exact x1, fun p p0 p1 => by rw [up_other (by decide), t1 37 0 p (xt_hi (by decide))]; exact hm p p0 p1⟩
    have hT0 : ((0, μ 15 t, μ 16 t, μ 17 t, μ 18 t) : TDt).1 = 0 := rfl
    generalize ((0, μ 15 t, μ 16 t, μ 17 t, μ 18 t) : TDt) = T0 at p1 ok1 hT0
    have pl := town_pl (T := T0) hx
    have t1x : Tch (XW t) μ m1 := t1.wk (fun _ _ _ => XT_XW)
    cases hb : (townF ch n T0).1
    · -- no TOWN
      refine B_P_town_28 (b1 := fun z => absurd rfl z) (k1 := fun z => absurd rfl z) (b2 := fun _ => by omega) (k2 := fun _ => h _ _ (fun Q' h' => ?_))
      have e8 : up m1 19 0 1 0 31 0 8 = t := by rw [up_other (by decide), h31]; exact w2
      refine T_M_town (d := 32) (k1 := fun _ => ?_) (k2 := fun z => absurd z (by omega))
      rw [e8]
      refine c_M_goesText (d := 32) (T := T0) (by omega) hx (mtx 0) (fun q q0 q1 => by rw [up_other (by decide), t1 45 0 q (xt_hi (by decide))]; exact hI.mi.2.2 q q0 q1) hT0 (fun m2 t2 p2 ok2 => ?_)
      rw [hb]
      have t12 : Tch (XW t) μ (up m2 31 0 10 0) := Tch.up (Tch.tr (t1x.up xw_19) (t2.wk (fun _ _ _ => XG_XW))) (xw_31 (by decide))
      refine B_M_town_20 (b1 := fun z => absurd rfl z) (k1 := fun z => absurd rfl z) (b2 := fun _ => by omega) (k2 := fun _ => ?_)
      rw [p2, ← p1]
      have r0 : up m2 31 0 10 0 0 0 5 = t := by rw [up_other (by decide), t2 0 0 5 (xg_lo (by decide)), up_other (by decide)]; exact ht0
      refine h' _ (hI.town et.symm e6 t12 (Or.inl r0) ?_ (Or.inl ⟨?_, ?_⟩) ?_ up_same)
      · rw [r0, up_ne (by decide), t2 31 0 8 (xg_31 (by decide))]; exact e8
      · rw [up_other (by decide), t2 1 0 4 (xg_lo (by decide)), up_other (by decide), t1 1 0 4 (xt_hi (by decide))]
      · rw [up_ne (by decide), t2 31 0 9 (xg_31 (by decide)), up_other (by decide), h31]
      · rw [up_other (by decide), t2 19 0 1 (xg_lo (by decide)), up_same]
    · -- a TOWN
      obtain ⟨o1, o2, o3, o4⟩ := ok1 hb
      refine B_P_town_28 (b1 := fun _ => by omega) (k1 := fun _ => h _ _ (fun Q' h' => ?_)) (b2 := fun z => absurd z (by decide)) (k2 := fun z => absurd z (by decide))
      rw [ht0] at h' ⊢
      have f31 : up (up (up m1 19 0 1 0) 1 0 4 t) 0 0 5 (t + 1) 31 = μ 31 := by rw [up_k (by decide), up_k (by decide), up_k (by decide), h31]
      have e8 : up (up (up m1 19 0 1 0) 1 0 4 t) 0 0 5 (t + 1) 31 0 8 = t := by rw [f31]; exact w2
      refine T_M_town (d := 32) (k1 := fun _ => ?_) (k2 := fun z => absurd z (by omega))
      rw [e8]
      refine c_M_goesText (d := 32) (T := T0) (by omega) hx ⟨by rw [f31]; exact x1, fun p p0 p1 => by rw [up_other (by decide), up_other (by decide), up_other (by decide), t1 37 0 p (xt_hi (by decide))]; exact hm p p0 p1⟩ (fun q q0 q1 => by rw [up_other (by decide), up_other (by decide), up_other (by decide), t1 45 0 q (xt_hi (by decide))]; exact hI.mi.2.2 q q0 q1) hT0 (fun m2 t2 p2 ok2 => ?_)
      rw [hb]
      have e9 : m2 31 0 8 = t := by rw [t2 31 0 8 (xg_31 (by decide))]; exact e8
      refine B_M_town_20 (b1 := fun _ => by omega) (k1 := fun _ => ?_) (b2 := fun z => absurd z (by decide)) (k2 := fun z => absurd z (by decide))
      rw [e9]
      have t12 : Tch (XW t) μ (up (up (up m2 31 0 10 0) 31 0 9 t) 31 0 8 (t + 1)) := Tch.up (Tch.up (Tch.up (Tch.tr (((t1x.up xw_19).up xw_14).up xw_05) (t2.wk (fun _ _ _ => XG_XW))) (xw_31 (by decide))) (xw_31 (by decide))) (xw_31 (by decide))
      have r0 : up (up (up m2 31 0 10 0) 31 0 9 t) 31 0 8 (t + 1) 0 0 5 = t + 1 := by rw [up_other (by decide), up_other (by decide), up_other (by decide), t2 0 0 5 (xg_lo (by decide)), up_same]
      have rc : ∀ k, 14 ≤ k → k ≤ 18 → ∀ j, up (up (up m2 31 0 10 0) 31 0 9 t) 31 0 8 (t + 1) k t j = m1 k t j := fun k k0 k1 j => by rw [up_other (show k ≠ 31 from fun z => by rw [z] at k1; exact absurd k1 (by decide)), up_other (show k ≠ 31 from fun z => by rw [z] at k1; exact absurd k1 (by decide)), up_other (show k ≠ 31 from fun z => by rw [z] at k1; exact absurd k1 (by decide)), t2 k t j (xg_lo (Nat.lt_of_le_of_lt k1 (by decide))), up_other (show k ≠ 0 from fun z => by rw [z] at k0; exact absurd k0 (by decide)), up_other (show k ≠ 1 from fun z => by rw [z] at k0; exact absurd k0 (by decide)), up_other (show k ≠ 19 from fun z => by rw [z] at k1; exact absurd k1 (by decide))]
      have eT : TT (up (up (up m2 31 0 10 0) 31 0 9 t) 31 0 8 (t + 1)) t = TT m1 t := by
        unfold TT
        rw [rc 14 (by decide) (by decide), funext (rc 15 (by decide) (by decide)), funext (rc 16 (by decide) (by decide)), funext (rc 17 (by decide) (by decide)), funext (rc 18 (by decide) (by decide))]
      have hT1 : T1 (up (up (up m2 31 0 10 0) 31 0 9 t) 31 0 8 (t + 1)) t := by
        refine ⟨⟨rfl, ?_, ?_, ?_⟩, ?_⟩
        · rw [eT]; exact o2.ok
        · rw [eT, rc 14 (by decide) (by decide)]; exact o3
        · rw [eT, rc 14 (by decide) (by decide)]; exact o4
        · rw [eT, o1]
          obtain ⟨q1, q2⟩ := ok2 hb
          refine ⟨by rw [up_other (by decide), up_other (by decide), up_other (by decide)]; exact q1, fun c c0 c1 => ?_⟩
          have := q2 c c0 c1
          rw [up_other (by decide), up_other (by decide), up_other (by decide), up_other (by decide), up_other (by decide), up_other (by decide), up_other (by decide), up_other (by decide), up_other (by decide), up_other (by decide), up_other (by decide), up_other (by decide)]
          refine ⟨this.1, this.2.1, fun z => ⟨(this.2.2 z).1, (this.2.2 z).2.1, fun i i0 i1 => ?_⟩⟩
          rw [up_other (by decide), up_other (by decide), up_other (by decide)]
          exact (this.2.2 z).2.2 i i0 i1
      refine h' _ (hI.town et.symm e6 t12 (Or.inr ⟨r0, hT1⟩) ?_ (Or.inr ⟨r0, ?_, ?_⟩) ?_ ?_)
      · rw [r0, up_same]
      · rw [up_other (by decide), up_other (by decide), up_other (by decide), t2 1 0 4 (xg_lo (by decide)), up_other (by decide), up_same]
      · rw [up_ne (by decide), up_same]
      · rw [up_other (by decide), up_other (by decide), up_other (by decide), t2 19 0 1 (xg_lo (by decide)), up_other (by decide), up_other (by decide), up_same]
      · rw [up_ne (by decide), up_ne (by decide), up_same]
  · refine T_P_town (d := 31) (k1 := fun z => absurd z e6) (k2 := fun _ => h _ _ (fun Q' h' => ?_))
    exact T_M_town (d := 32) (k1 := fun z => absurd (by omega) z) (k2 := fun _ => h' _ hI)
end
