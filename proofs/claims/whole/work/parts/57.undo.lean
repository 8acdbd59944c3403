/-! THE IMAGE, made and taken back. -/
section
variable {g : aG} {d : Nat} {μ : aM} {Q : aQ}
def dimage (k : Nat) (j : Int) : Prop := (59 ≤ k ∧ k ≤ 62 ∧ 0 ≤ j ∧ j < 6) ∨ (63 ≤ k ∧ k ≤ 63 ∧ 0 ≤ j ∧ j < 24) ∨ (64 ≤ k ∧ k ≤ 66 ∧ 0 ≤ j ∧ j < 5) ∨ (67 ≤ k ∧ k ≤ 68 ∧ 0 ≤ j ∧ j < 10) ∨ (69 ≤ k ∧ k ≤ 70 ∧ 0 ≤ j ∧ j < 8)
def fimage (k : Nat) : Nat := if k ≤ 63 then k - 27 else k - 12
theorem c_M_image {m0 : aM} (hm : m0 = up (up (up (up (up (up (up (up μ 31 0 45 1) 31 0 46 (μ 31 0 9)) 31 0 47 (μ 31 0 0)) 31 0 48 (μ 31 0 1)) 31 0 49 (μ 31 0 2)) 31 0 50 (μ 31 0 35)) 31 0 51 (μ 31 0 39)) 31 0 52 (μ 31 0 40)) (h : ∀ m, Cp dimage fimage m0 m → Q (some (aI (m 31 0 0))) m) : Cal g (d + 1) m_M_image [aR 31 0] μ Q := by
  refine T_M_image (k1 := ?_)
  have e : up (up (up (up (up (up (up (up μ 31 0 45 1) 31 0 46 (μ 31 0 9)) 31 0 47 (μ 31 0 0)) 31 0 48 (μ 31 0 1)) 31 0 49 (μ 31 0 2)) 31 0 50 (μ 31 0 35)) 31 0 51 (μ 31 0 39)) 31 0 52 (μ 31 0 40) = m0 := hm.symm
  rw [e]
  have h0 : Cp (fun k j => (59 ≤ k ∧ k ≤ 62 ∧ 0 ≤ j ∧ j < 0)) fimage m0 m0 := Cp.rf (fun _ _ => by omega)
  refine loopR (n := 6) (fun p (m : aM) => Rn g d m_M_image 63 [some (aR 31 0), some (aI p)] [] m Q) (fun p m => Cp (fun k j => (59 ≤ k ∧ k ≤ 62 ∧ 0 ≤ j ∧ j < p)) fimage m0 m) ?_ ?_ 0 m0 (by omega) (by omega) (h0.cong (fun k j => by omega))
  · rintro p m p0 p1 hc ih
    refine B_M_image_63 (k1 := fun z => absurd z (by omega)) (k2 := fun _ => ih _ ((((((hc.u (a := 59) (q := p) (by rw [show fimage 59 = 32 from rfl]; omega) rfl).u (a := 60) (q := p) (by rw [show fimage 60 = 33 from rfl]; omega) (by simp [fimage, up_other])).u (a := 61) (q := p) (by rw [show fimage 61 = 34 from rfl]; omega) (by simp [fimage, up_other])).u (a := 62) (q := p) (by rw [show fimage 62 = 35 from rfl]; omega) (by simp [fimage, up_other]))).cong (fun k j => by omega)))
  · rintro m h1
    refine B_M_image_63 (k1 := fun _ => ?_) (k2 := fun z => absurd z (by omega))
    refine loopR (n := 24) (fun p (m : aM) => Rn g d m_M_image 125 [some (aR 31 0), some (aI p)] [] m Q) (fun p m => Cp (fun k j => (59 ≤ k ∧ k ≤ 62 ∧ 0 ≤ j ∧ j < 6) ∨ (63 ≤ k ∧ k ≤ 63 ∧ 0 ≤ j ∧ j < p)) fimage m0 m) ?_ ?_ 0 m (by omega) (by omega) (h1.cong (fun k j => by omega))
    · rintro p m p0 p1 hc ih
      refine B_M_image_125 (k1 := fun z => absurd z (by omega)) (k2 := fun _ => ih _ (((hc.u (a := 63) (q := p) (by rw [show fimage 63 = 36 from rfl]; omega) rfl)).cong (fun k j => by omega)))
    · rintro m h2
      refine B_M_image_125 (k1 := fun _ => ?_) (k2 := fun z => absurd z (by omega))
      refine loopR (n := 5) (fun p (m : aM) => Rn g d m_M_image 151 [some (aR 31 0), some (aI p)] [] m Q) (fun p m => Cp (fun k j => (59 ≤ k ∧ k ≤ 62 ∧ 0 ≤ j ∧ j < 6) ∨ (63 ≤ k ∧ k ≤ 63 ∧ 0 ≤ j ∧ j < 24) ∨ (64 ≤ k ∧ k ≤ 66 ∧ 0 ≤ j ∧ j < p)) fimage m0 m) ?_ ?_ 0 m (by omega) (by omega) (h2.cong (fun k j => by omega))
      · rintro p m p0 p1 hc ih
        refine B_M_image_151 (k1 := fun z => absurd z (by omega)) (k2 := fun _ => ih _ (((((hc.u (a := 64) (q := p) (by rw [show fimage 64 = 52 from rfl]; omega) rfl).u (a := 65) (q := p) (by rw [show fimage 65 = 53 from rfl]; omega) (by simp [fimage, up_other])).u (a := 66) (q := p) (by rw [show fimage 66 = 54 from rfl]; omega) (by simp [fimage, up_other]))).cong (fun k j => by omega)))
      · rintro m h3
        refine B_M_image_151 (k1 := fun _ => ?_) (k2 := fun z => absurd z (by omega))
        refine loopR (n := 10) (fun p (m : aM) => Rn g d m_M_image 200 [some (aR 31 0), some (aI p)] [] m Q) (fun p m => Cp (fun k j => (59 ≤ k ∧ k ≤ 62 ∧ 0 ≤ j ∧ j < 6) ∨ (63 ≤ k ∧ k ≤ 63 ∧ 0 ≤ j ∧ j < 24) ∨ (64 ≤ k ∧ k ≤ 66 ∧ 0 ≤ j ∧ j < 5) ∨ (67 ≤ k ∧ k ≤ 68 ∧ 0 ≤ j ∧ j < p)) fimage m0 m) ?_ ?_ 0 m (by omega) (by omega) (h3.cong (fun k j => by omega))
        · rintro p m p0 p1 hc ih
          refine B_M_image_200 (k1 := fun z => absurd z (by omega)) (k2 := fun _ => ih _ ((((hc.u (a := 67) (q := p) (by rw [show fimage 67 = 55 from rfl]; omega) rfl).u (a := 68) (q := p) (by rw [show fimage 68 = 56 from rfl]; omega) (by simp [fimage, up_other]))).cong (fun k j => by omega)))
        · rintro m h4
          refine B_M_image_200 (k1 := fun _ => ?_) (k2 := fun z => absurd z (by omega))
          refine loopR (n := 8) (fun p (m : aM) => Rn g d m_M_image 238 [some (aR 31 0), some (aI p)] [] m Q) (fun p m => Cp (fun k j => (59 ≤ k ∧ k ≤ 62 ∧ 0 ≤ j ∧ j < 6) ∨ (63 ≤ k ∧ k ≤ 63 ∧ 0 ≤ j ∧ j < 24) ∨ (64 ≤ k ∧ k ≤ 66 ∧ 0 ≤ j ∧ j < 5) ∨ (67 ≤ k ∧ k ≤ 68 ∧ 0 ≤ j ∧ j < 10) ∨ (69 ≤ k ∧ k ≤ 70 ∧ 0 ≤ j ∧ j < p)) fimage m0 m) ?_ ?_ 0 m (by omega) (by omega) (h4.cong (fun k j => by omega))
          · rintro p m p0 p1 hc ih
            refine B_M_image_238 (k1 := fun z => absurd z (by omega)) (k2 := fun _ => ih _ ((((hc.u (a := 69) (q := p) (by rw [show fimage 69 = 57 from rfl]; omega) rfl).u (a := 70) (q := p) (by rw [show fimage 70 = 58 from rfl]; omega) (by simp [fimage, up_other]))).cong (fun k j => by omega)))
          · rintro m hc
            exact B_M_image_238 (k1 := fun _ => h m (hc.cong (fun k j => by unfold dimage; omega))) (k2 := fun z => absurd z (by omega))
def dundo (k : Nat) (j : Int) : Prop := (32 ≤ k ∧ k ≤ 35 ∧ 0 ≤ j ∧ j < 6) ∨ (36 ≤ k ∧ k ≤ 36 ∧ 0 ≤ j ∧ j < 24) ∨ (52 ≤ k ∧ k ≤ 54 ∧ 0 ≤ j ∧ j < 5) ∨ (55 ≤ k ∧ k ≤ 56 ∧ 0 ≤ j ∧ j < 10) ∨ (57 ≤ k ∧ k ≤ 58 ∧ 0 ≤ j ∧ j < 8)
def fundo (k : Nat) : Nat := if k ≤ 36 then k + 27 else k + 12
theorem c_M_undo {m0 : aM} (hi : μ 31 0 45 ≠ 0) (hm : m0 = up (up (up (up (up (up (up μ 31 0 9 (μ 31 0 46)) 31 0 0 (μ 31 0 47)) 31 0 1 (μ 31 0 48)) 31 0 2 (μ 31 0 49)) 31 0 35 (μ 31 0 50)) 31 0 39 (μ 31 0 51)) 31 0 40 (μ 31 0 52)) (h : ∀ m, Cp dundo fundo m0 m → Q (some (aI (m 31 0 0))) m) : Cal g (d + 1) m_M_undo [aR 31 0] μ Q := by
  refine T_M_undo (k1 := fun _ => ?_) (k2 := fun z => absurd z hi)
  have e : up (up (up (up (up (up (up μ 31 0 9 (μ 31 0 46)) 31 0 0 (μ 31 0 47)) 31 0 1 (μ 31 0 48)) 31 0 2 (μ 31 0 49)) 31 0 35 (μ 31 0 50)) 31 0 39 (μ 31 0 51)) 31 0 40 (μ 31 0 52) = m0 := hm.symm
  rw [e]
  have h0 : Cp (fun k j => (32 ≤ k ∧ k ≤ 35 ∧ 0 ≤ j ∧ j < 0)) fundo m0 m0 := Cp.rf (fun _ _ => by omega)
  refine loopR (n := 6) (fun p (m : aM) => Rn g d m_M_undo 68 [some (aR 31 0), some (aI p)] [] m Q) (fun p m => Cp (fun k j => (32 ≤ k ∧ k ≤ 35 ∧ 0 ≤ j ∧ j < p)) fundo m0 m) ?_ ?_ 0 m0 (by omega) (by omega) (h0.cong (fun k j => by omega))
  · rintro p m p0 p1 hc ih
    refine B_M_undo_68 (k1 := fun z => absurd z (by omega)) (k2 := fun _ => ih _ ((((((hc.u (a := 32) (q := p) (by rw [show fundo 32 = 59 from rfl]; omega) rfl).u (a := 33) (q := p) (by rw [show fundo 33 = 60 from rfl]; omega) (by simp [fundo, up_other])).u (a := 34) (q := p) (by rw [show fundo 34 = 61 from rfl]; omega) (by simp [fundo, up_other])).u (a := 35) (q := p) (by rw [show fundo 35 = 62 from rfl]; omega) (by simp [fundo, up_other]))).cong (fun k j => by omega)))
  · rintro m h1
    refine B_M_undo_68 (k1 := fun _ => ?_) (k2 := fun z => absurd z (by omega))
    refine loopR (n := 24) (fun p (m : aM) => Rn g d m_M_undo 130 [some (aR 31 0), some (aI p)] [] m Q) (fun p m => Cp (fun k j => (32 ≤ k ∧ k ≤ 35 ∧ 0 ≤ j ∧ j < 6) ∨ (36 ≤ k ∧ k ≤ 36 ∧ 0 ≤ j ∧ j < p)) fundo m0 m) ?_ ?_ 0 m (by omega) (by omega) (h1.cong (fun k j => by omega))
    · rintro p m p0 p1 hc ih
      refine B_M_undo_130 (k1 := fun z => absurd z (by omega)) (k2 := fun _ => ih _ (((hc.u (a := 36) (q := p) (by rw [show fundo 36 = 63 from rfl]; omega) rfl)).cong (fun k j => by omega)))
    · rintro m h2
      refine B_M_undo_130 (k1 := fun _ => ?_) (k2 := fun z => absurd z (by omega))
      refine loopR (n := 5) (fun p (m : aM) => Rn g d m_M_undo 156 [some (aR 31 0), some (aI p)] [] m Q) (fun p m => Cp (fun k j => (32 ≤ k ∧ k ≤ 35 ∧ 0 ≤ j ∧ j < 6) ∨ (36 ≤ k ∧ k ≤ 36 ∧ 0 ≤ j ∧ j < 24) ∨ (52 ≤ k ∧ k ≤ 54 ∧ 0 ≤ j ∧ j < p)) fundo m0 m) ?_ ?_ 0 m (by omega) (by omega) (h2.cong (fun k j => by omega))
      · rintro p m p0 p1 hc ih
        refine B_M_undo_156 (k1 := fun z => absurd z (by omega)) (k2 := fun _ => ih _ (((((hc.u (a := 52) (q := p) (by rw [show fundo 52 = 64 from rfl]; omega) rfl).u (a := 53) (q := p) (by rw [show fundo 53 = 65 from rfl]; omega) (by simp [fundo, up_other])).u (a := 54) (q := p) (by rw [show fundo 54 = 66 from rfl]; omega) (by simp [fundo, up_other]))).cong (fun k j => by omega)))
      · rintro m h3
        refine B_M_undo_156 (k1 := fun _ => ?_) (k2 := fun z => absurd z (by omega))
        refine loopR (n := 10) (fun p (m : aM) => Rn g d m_M_undo 205 [some (aR 31 0), some (aI p)] [] m Q) (fun p m => Cp (fun k j => (32 ≤ k ∧ k ≤ 35 ∧ 0 ≤ j ∧ j < 6) ∨ (36 ≤ k ∧ k ≤ 36 ∧ 0 ≤ j ∧ j < 24) ∨ (52 ≤ k ∧ k ≤ 54 ∧ 0 ≤ j ∧ j < 5) ∨ (55 ≤ k ∧ k ≤ 56 ∧ 0 ≤ j ∧ j < p)) fundo m0 m) ?_ ?_ 0 m (by omega) (by omega) (h3.cong (fun k j => by omega))
        · rintro p m p0 p1 hc ih
          refine B_M_undo_205 (k1 := fun z => absurd z (by omega)) (k2 := fun _ => ih _ ((((hc.u (a := 55) (q := p) (by rw [show fundo 55 = 67 from rfl]; omega) rfl).u (a := 56) (q := p) (by rw [show fundo 56 = 68 from rfl]; omega) (by simp [fundo, up_other]))).cong (fun k j => by omega)))
        · rintro m h4
          refine B_M_undo_205 (k1 := fun _ => ?_) (k2 := fun z => absurd z (by omega))
          refine loopR (n := 8) (fun p (m : aM) => Rn g d m_M_undo 243 [some (aR 31 0), some (aI p)] [] m Q) (fun p m => Cp (fun k j => (32 ≤ k ∧ k ≤ 35 ∧ 0 ≤ j ∧ j < 6) ∨ (36 ≤ k ∧ k ≤ 36 ∧ 0 ≤ j ∧ j < 24) ∨ (52 ≤ k ∧ k ≤ 54 ∧ 0 ≤ j ∧ j < 5) ∨ (55 ≤ k ∧ k ≤ 56 ∧ 0 ≤ j ∧ j < 10) ∨ (57 ≤ k ∧ k ≤ 58 ∧ 0 ≤ j ∧ j < p)) fundo m0 m) ?_ ?_ 0 m (by omega) (by omega) (h4.cong (fun k j => by omega))
          · rintro p m p0 p1 hc ih
            refine B_M_undo_243 (k1 := fun z => absurd z (by omega)) (k2 := fun _ => ih _ ((((hc.u (a := 57) (q := p) (by rw [show fundo 57 = 69 from rfl]; omega) rfl).u (a := 58) (q := p) (by rw [show fundo 58 = 70 from rfl]; omega) (by simp [fundo, up_other]))).cong (fun k j => by omega)))
          · rintro m hc
            exact B_M_undo_243 (k1 := fun _ => h m (hc.cong (fun k j => by unfold dundo; omega))) (k2 := fun z => absurd z (by omega))

theorem SN.cg {n n' l l' : Int} {P O D P' O' D' A B C A' B' C' : Int → Int} (h : SN n n' P O D P' O' D') (e : l = n) (e' : l' = n') (hA : ∀ k, 0 ≤ k → k < n → A k = P k ∧ B k = O k ∧ C k = D k) (hA' : ∀ k, 0 ≤ k → k < 5 → A' k = P' k ∧ B' k = O' k ∧ C' k = D' k) : SN l l' A B C A' B' C' := by
  obtain ⟨h1, h2, h3⟩ := h
  subst e; subst e'
  refine ⟨h1, h2, fun k k0 k1 => ?_⟩
  obtain ⟨a1, a2, a3⟩ := hA k k0 k1
  obtain ⟨b1, b2, b3⟩ := hA' k k0 (by omega)
  rw [a1, a2, a3, b1, b2, b3]; exact h3 k k0 k1
theorem WK.cg {n n' l l' : Int} {W P W' P' A B A' B' : Int → Int} (h : WK n n' W P W' P') (e : l = n) (e' : l' = n') (hA : ∀ k, 0 ≤ k → k < n → A k = W k ∧ B k = P k) (hA' : ∀ k, 0 ≤ k → k < 10 → A' k = W' k ∧ B' k = P' k) : WK l l' A B A' B' := by
  obtain ⟨h1, h2, h3⟩ := h
  subst e; subst e'
  refine ⟨h1, h2, fun k k0 k1 => ?_⟩
  obtain ⟨a1, a2⟩ := hA k k0 k1
  obtain ⟨b1, b2⟩ := hA' k k0 (by omega)
  rw [a1, a2, b1, b2]; exact h3 k k0 k1
theorem BK.cg {n n' l l' : Int} {W P W' P' A B A' B' : Int → Int} (h : BK n n' W P W' P') (e : l = n) (e' : l' = n') (hA : ∀ k, 0 ≤ k → k < n → A k = W k ∧ B k = P k) (hA' : ∀ k, 0 ≤ k → k < 8 → A' k = W' k ∧ B' k = P' k) : BK l l' A B A' B' := by
  obtain ⟨h1, h2, h3⟩ := h
  subst e; subst e'
  refine ⟨h1, h2, fun k k0 k1 => ?_⟩
  obtain ⟨a1, a2⟩ := hA k k0 k1
  obtain ⟨b1, b2⟩ := hA' k k0 (by omega)
  rw [a1, a2, b1, b2]; exact h3 k k0 k1
theorem j_image (hI : Inv μ) : Pair g 40 m_P_image m_M_image [] μ := by
  intro Q h
  have hn := hI_n hI
  have hsn := hI.sn
  have hwk := hI.wk
  have hbk := hI.bk
  have hmo := hI.mo
  refine T_P_image (d := 37) (k1 := c_Mt_become (d := 36) (a := 1) (b := 0) (by decide) (fun t t0 t1 => ?_) (fun m t1 hv h4 hN => B_P_image_11 (k1 := h _ _ (fun Q' h' => ?_))))
  · obtain e | e | e : t = 0 ∨ t = 1 ∨ t = 2 := by omega
    · subst e; exact ⟨hsn.2.1, hmo.2.1⟩
    · subst e; exact ⟨hwk.2.1, hmo.2.2.1⟩
    · subst e; exact ⟨hbk.2.1, hmo.2.2.2⟩
  · have hm2 : m 2 0 0 = μ 2 0 0 := t1 2 0 0 (by omega)
    have u1 : ∀ k j, 31 ≤ k → up m 0 0 2 1 k 0 j = μ k 0 j := fun k j hk => by rw [up_out (by omega), t1 k 0 j (by omega)]
    have e0 : ∀ j, up m 0 0 2 1 31 0 j = μ 31 0 j := fun j => u1 31 j (by omega)
    refine c_M_image (d := 39) rfl (fun m2 hc => ?_)
    rw [e0, e0, e0, e0, e0, e0, e0] at hc
    have hr : ∀ k j, dimage k j → m2 k 0 j = μ (fimage k) 0 j := fun k j hd => by
      rw [(hc k 0 j).2 hd]
      have hk : 31 ≤ fimage k ∧ fimage k ≠ 31 := by unfold dimage at hd; unfold fimage; split <;> omega
      rw [up_out (by omega), up_out (by omega), up_out (by omega), up_out (by omega), up_out (by omega), up_out (by omega), up_out (by omega), up_out (by omega)]
      exact u1 _ j hk.1
    have hs : ∀ j, m2 31 0 j = up (up (up (up (up (up (up (up (up m 0 0 2 1) 31 0 45 1) 31 0 46 (μ 31 0 9)) 31 0 47 (μ 31 0 0)) 31 0 48 (μ 31 0 1)) 31 0 49 (μ 31 0 2)) 31 0 50 (μ 31 0 35)) 31 0 51 (μ 31 0 39)) 31 0 52 (μ 31 0 40) 31 0 j := fun j => (hc 31 0 j).1 (by unfold dimage; omega)
    have hcl : ∀ k i j, k < 31 → m2 k i j = up m 0 0 2 1 k i j := fun k i j hk => by
      rw [(hc k i j).1 (by unfold dimage; omega)]
      rw [up_out (by omega), up_out (by omega), up_out (by omega), up_out (by omega), up_out (by omega), up_out (by omega), up_out (by omega), up_out (by omega)]
    have t2 : Tch (fun k i j => (2 ≤ k ∧ k ≤ 8 ∧ i = 1) ∨ (9 ≤ k ∧ k ≤ 12 ∧ 3 ≤ i ∧ i ≤ 5 ∧ ¬ (k = 9 ∧ j = 0)) ∨ (k = 1 ∧ i = 1 ∧ j = 4) ∨ (i = 0 ∧ ((k = 0 ∧ j = 2) ∨ (k = 31 ∧ 45 ≤ j ∧ j ≤ 52) ∨ (59 ≤ k ∧ k ≤ 70)))) μ m2 := fun k i j hx => by
      rw [(hc k i j).1 (by unfold dimage; omega)]
      rw [up_out (by omega), up_out (by omega), up_out (by omega), up_out (by omega), up_out (by omega), up_out (by omega), up_out (by omega), up_out (by omega), up_out (by omega), t1 k i j (by omega)]
    have s45 : m2 31 0 45 = 1 := by rw [hs]; simp [up]
    have s46 : m2 31 0 46 = μ 31 0 9 := by rw [hs]; simp [up]
    have s47 : m2 31 0 47 = μ 31 0 0 := by rw [hs]; simp [up]
    have s48 : m2 31 0 48 = μ 31 0 1 := by rw [hs]; simp [up]
    have s49 : m2 31 0 49 = μ 31 0 2 := by rw [hs]; simp [up]
    have s50 : m2 31 0 50 = μ 31 0 35 := by rw [hs]; simp [up]
    have s51 : m2 31 0 51 = μ 31 0 39 := by rw [hs]; simp [up]
    have s52 : m2 31 0 52 = μ 31 0 40 := by rw [hs]; simp [up]
    have s0 : m2 31 0 0 = μ 31 0 0 := t2 31 0 0 (by omega)
    have hV : vC m2 1 = vC μ 0 := by
      rw [← hv]; unfold vC
      have c : ∀ k i, 2 ≤ k → k ≤ 8 → m2 k i = m k i := fun k i k0 k1 => funext fun j => by rw [hcl k i j (by omega), up_out (by omega)]
      rw [c 2 1 (by decide) (by decide), c 3 1 (by decide) (by decide), c 4 1 (by decide) (by decide), c 5 1 (by decide) (by decide), c 6 1 (by decide) (by decide), c 7 1 (by decide) (by decide), c 8 1 (by decide) (by decide)]
    have hW : vI m2 = vM μ := by
      unfold vI vM
      rw [s47, s48, s49]
      rw [t6_ext (f := m2 59 0) (f' := μ 32 0) (fun i i0 i1 => hr 59 i (by unfold dimage; omega)), t6_ext (f := m2 60 0) (f' := μ 33 0) (fun i i0 i1 => hr 60 i (by unfold dimage; omega)), t6_ext (f := m2 61 0) (f' := μ 34 0) (fun i i0 i1 => hr 61 i (by unfold dimage; omega)), t6_ext (f := m2 62 0) (f' := μ 35 0) (fun i i0 i1 => hr 62 i (by unfold dimage; omega)), t24_ext (f := m2 63 0) (f' := μ 36 0) (fun i i0 i1 => hr 63 i (by unfold dimage; omega))]
    have ho := hI.ho
    have pk : PK m2 := by
      unfold PK; rw [hV, hW, s49]; exact hI.pe
    have ho' : HO m2 := by
      unfold HO
      rw [s46, t2 31 0 9 (by omega), t2 1 0 4 (by omega), t2 0 0 5 (by omega), hcl 1 1 4 (by omega), up_out (by omega), h4]
      exact ⟨ho.1, ho.1⟩
    have im : IM m2 := by
      unfold IM; rw [s45, hcl 0 0 2 (by omega), up_same]
    have hN' : ∀ t, 0 ≤ t → t ≤ 2 → m2 9 (3 + t) 1 = μ 9 t 1 ∧ ∀ k j, 10 ≤ k → k ≤ 12 → 0 ≤ j → j < μ 9 t 1 → m2 k (3 + t) j = μ k t j := fun t t0 t1 => by
      have := hN t t0 t1
      rw [show 3 * 1 + t = 3 + t by omega, show 3 * 0 + t = t by omega] at this
      refine ⟨by rw [hcl 9 _ 1 (by omega), up_out (by omega)]; exact this.1, fun k j k0 k1 j0 j1 => by rw [hcl k _ j (by omega), up_out (by omega)]; exact this.2 k j k0 k1 j0 j1⟩
    have nk : NK m2 := by
      refine ⟨hsn.cg (hN' 0 (by omega) (by omega)).1 s50 (fun k k0 k1 => ⟨(hN' 0 (by omega) (by omega)).2 10 k (by omega) (by omega) k0 k1, (hN' 0 (by omega) (by omega)).2 11 k (by omega) (by omega) k0 k1, (hN' 0 (by omega) (by omega)).2 12 k (by omega) (by omega) k0 k1⟩) (fun k k0 k1 => ⟨hr 64 k (by unfold dimage; omega), hr 65 k (by unfold dimage; omega), hr 66 k (by unfold dimage; omega)⟩), hwk.cg (hN' 1 (by omega) (by omega)).1 s51 (fun k k0 k1 => ⟨(hN' 1 (by omega) (by omega)).2 11 k (by omega) (by omega) k0 k1, (hN' 1 (by omega) (by omega)).2 10 k (by omega) (by omega) k0 k1⟩) (fun k k0 k1 => ⟨hr 67 k (by unfold dimage; omega), hr 68 k (by unfold dimage; omega)⟩), hbk.cg (hN' 2 (by omega) (by omega)).1 s52 (fun k k0 k1 => ⟨(hN' 2 (by omega) (by omega)).2 10 k (by omega) (by omega) k0 k1, (hN' 2 (by omega) (by omega)).2 11 k (by omega) (by omega) k0 k1⟩) (fun k k0 k1 => ⟨hr 69 k (by unfold dimage; omega), hr 70 k (by unfold dimage; omega)⟩)⟩
    rw [s0, hn.1, ← hm2]
    exact h' _ (hI.go t2 (pk := Or.inl pk) (ho := Or.inl ho') (im := Or.inl im) (nk := Or.inl nk))
theorem j_undo (hI : Inv μ) : Pair g 40 m_P_undo m_M_undo [] μ := by
  intro Q h
  obtain ⟨hsn, hwk, hbk⟩ := hI.nk
  have hmo := hI.mo
  have hpk := hI.pk
  have hn1 : μ 31 0 47 = μ 2 1 0 := (V_at hpk.1).1
  refine T_P_undo (d := 37) (k1 := fun zi => c_Mt_become (d := 36) (a := 0) (b := 1) (by decide) (fun t t0 t1 => ?_) (fun m t1 hv h4 hN => B_P_undo_21 (k1 := h _ _ (fun Q' h' => ?_)))) (k2 := fun zi => h _ _ (fun Q' h' => T_M_undo (d := 39) (k1 := fun z => absurd (hI.im.trans zi) z) (k2 := fun _ => h' _ hI)))
  · obtain e | e | e : t = 0 ∨ t = 1 ∨ t = 2 := by omega
    · subst e; exact ⟨hsn.2.1, hmo.1.1⟩
    · subst e; exact ⟨hwk.2.1, hmo.1.2.1⟩
    · subst e; exact ⟨hbk.2.1, hmo.1.2.2⟩
  · have hm2 : m 2 0 0 = μ 2 1 0 := (V_at hv).1
    have u1 : ∀ k j, 31 ≤ k → m k 0 j = μ k 0 j := fun k j hk => by rw [t1 k 0 j (by omega)]
    have e0 : ∀ j, m 31 0 j = μ 31 0 j := fun j => u1 31 j (by omega)
    refine c_M_undo (d := 39) (by rw [e0, hI.im]; exact zi) rfl (fun m2 hc => ?_)
    rw [e0, e0, e0, e0, e0, e0, e0] at hc
    have hr : ∀ k j, dundo k j → m2 k 0 j = μ (fundo k) 0 j := fun k j hd => by
      rw [(hc k 0 j).2 hd]
      have hk : 31 ≤ fundo k ∧ fundo k ≠ 31 := by unfold dundo at hd; unfold fundo; split <;> omega
      rw [up_out (by omega), up_out (by omega), up_out (by omega), up_out (by omega), up_out (by omega), up_out (by omega), up_out (by omega)]
      exact u1 _ j hk.1
    have hs : ∀ j, m2 31 0 j = up (up (up (up (up (up (up m 31 0 9 (μ 31 0 46)) 31 0 0 (μ 31 0 47)) 31 0 1 (μ 31 0 48)) 31 0 2 (μ 31 0 49)) 31 0 35 (μ 31 0 50)) 31 0 39 (μ 31 0 51)) 31 0 40 (μ 31 0 52) 31 0 j := fun j => (hc 31 0 j).1 (by unfold dundo; omega)
    have hcl : ∀ k i j, k < 31 → m2 k i j = m k i j := fun k i j hk => by
      rw [(hc k i j).1 (by unfold dundo; omega)]
      rw [up_out (by omega), up_out (by omega), up_out (by omega), up_out (by omega), up_out (by omega), up_out (by omega), up_out (by omega)]
    have t2 : Tch (fun k i j => (2 ≤ k ∧ k ≤ 8 ∧ i = 0) ∨ (9 ≤ k ∧ k ≤ 12 ∧ 0 ≤ i ∧ i ≤ 2 ∧ ¬ (k = 9 ∧ j = 0)) ∨ (k = 1 ∧ i = 0 ∧ j = 4) ∨ (i = 0 ∧ ((k = 31 ∧ (j = 9 ∨ (0 ≤ j ∧ j ≤ 2) ∨ j = 35 ∨ j = 39 ∨ j = 40)) ∨ (32 ≤ k ∧ k ≤ 36) ∨ (52 ≤ k ∧ k ≤ 58)))) μ m2 := fun k i j hx => by
      rw [(hc k i j).1 (by unfold dundo; omega)]
      rw [up_out (by omega), up_out (by omega), up_out (by omega), up_out (by omega), up_out (by omega), up_out (by omega), up_out (by omega), t1 k i j (by omega)]
    have s9 : m2 31 0 9 = μ 31 0 46 := by rw [hs]; simp [up]
    have s0 : m2 31 0 0 = μ 31 0 47 := by rw [hs]; simp [up]
    have s1 : m2 31 0 1 = μ 31 0 48 := by rw [hs]; simp [up]
    have s2 : m2 31 0 2 = μ 31 0 49 := by rw [hs]; simp [up]
    have s35 : m2 31 0 35 = μ 31 0 50 := by rw [hs]; simp [up]
    have s39 : m2 31 0 39 = μ 31 0 51 := by rw [hs]; simp [up]
    have s40 : m2 31 0 40 = μ 31 0 52 := by rw [hs]; simp [up]
    have hV : vC m2 0 = vC μ 1 := by
      rw [← hv]; unfold vC
      have c : ∀ k i, 2 ≤ k → k ≤ 8 → m2 k i = m k i := fun k i k0 k1 => funext fun j => by rw [hcl k i j (by omega)]
      rw [c 2 0 (by decide) (by decide), c 3 0 (by decide) (by decide), c 4 0 (by decide) (by decide), c 5 0 (by decide) (by decide), c 6 0 (by decide) (by decide), c 7 0 (by decide) (by decide), c 8 0 (by decide) (by decide)]
    have hW : vM m2 = vI μ := by
      unfold vI vM
      rw [s0, s1, s2]
      rw [t6_ext (f := m2 32 0) (f' := μ 59 0) (fun i i0 i1 => hr 32 i (by unfold dundo; omega)), t6_ext (f := m2 33 0) (f' := μ 60 0) (fun i i0 i1 => hr 33 i (by unfold dundo; omega)), t6_ext (f := m2 34 0) (f' := μ 61 0) (fun i i0 i1 => hr 34 i (by unfold dundo; omega)), t6_ext (f := m2 35 0) (f' := μ 62 0) (fun i i0 i1 => hr 35 i (by unfold dundo; omega)), t24_ext (f := m2 36 0) (f' := μ 63 0) (fun i i0 i1 => hr 36 i (by unfold dundo; omega))]
    have ho := hI.ho
    have pe : PE m2 := by
      unfold PE; rw [hV, hW, s2]; exact hI.pk
    have ho' : HO m2 := by
      unfold HO
      rw [s9, t2 31 0 46 (by omega), t2 1 1 4 (by omega), t2 0 0 5 (by omega), hcl 1 0 4 (by omega), h4]
      exact ⟨ho.2, ho.2⟩
    have hN' : ∀ t, 0 ≤ t → t ≤ 2 → m2 9 t 1 = μ 9 (3 + t) 1 ∧ ∀ k j, 10 ≤ k → k ≤ 12 → 0 ≤ j → j < μ 9 (3 + t) 1 → m2 k t j = μ k (3 + t) j := fun t t0 t1 => by
      have := hN t t0 t1
      rw [show 3 * 1 + t = 3 + t by omega, show 3 * 0 + t = t by omega] at this
      refine ⟨by rw [hcl 9 _ 1 (by omega)]; exact this.1, fun k j k0 k1 j0 j1 => by rw [hcl k _ j (by omega)]; exact this.2 k j k0 k1 j0 j1⟩
    have sn : SN0 m2 := hsn.cg (hN' 0 (by omega) (by omega)).1 s35 (fun k k0 k1 => ⟨(hN' 0 (by omega) (by omega)).2 10 k (by omega) (by omega) k0 k1, (hN' 0 (by omega) (by omega)).2 11 k (by omega) (by omega) k0 k1, (hN' 0 (by omega) (by omega)).2 12 k (by omega) (by omega) k0 k1⟩) (fun k k0 k1 => ⟨hr 52 k (by unfold dundo; omega), hr 53 k (by unfold dundo; omega), hr 54 k (by unfold dundo; omega)⟩)
    have wk : WK0 m2 := hwk.cg (hN' 1 (by omega) (by omega)).1 s39 (fun k k0 k1 => ⟨(hN' 1 (by omega) (by omega)).2 11 k (by omega) (by omega) k0 k1, (hN' 1 (by omega) (by omega)).2 10 k (by omega) (by omega) k0 k1⟩) (fun k k0 k1 => ⟨hr 55 k (by unfold dundo; omega), hr 56 k (by unfold dundo; omega)⟩)
    have bk : BK0 m2 := hbk.cg (hN' 2 (by omega) (by omega)).1 s40 (fun k k0 k1 => ⟨(hN' 2 (by omega) (by omega)).2 10 k (by omega) (by omega) k0 k1, (hN' 2 (by omega) (by omega)).2 11 k (by omega) (by omega) k0 k1⟩) (fun k k0 k1 => ⟨hr 57 k (by unfold dundo; omega), hr 58 k (by unfold dundo; omega)⟩)
    rw [s0, hn1, ← hm2]
    exact h' _ (hI.go t2 (pe := Or.inl pe) (ho := Or.inl ho') (sn := Or.inl sn) (wk := Or.inl wk) (bk := Or.inl bk))
end
