/-! What holds between the two programs' memories between two steps of the law. -/
def Tch (X : Nat → Int → Int → Prop) (μ μ' : aM) : Prop := ∀ k i j, ¬ X k i j → μ' k i j = μ k i j
theorem Tch.rf {X : Nat → Int → Int → Prop} {μ : aM} : Tch X μ μ := fun _ _ _ _ => rfl
theorem Tch.tr {X : Nat → Int → Int → Prop} {μ m m' : aM} (h : Tch X μ m) (h2 : Tch X m m') : Tch X μ m' := fun k i j hx => (h2 k i j hx).trans (h k i j hx)
theorem up_out {μ : aM} {k k' : Nat} {i j i' j' x : Int} (h : ¬ (k' = k ∧ i' = i ∧ j' = j)) : up μ k i j x k' i' j' = μ k' i' j' := by
  unfold up; rw [if_neg (fun z => h ⟨z.1, z.2.2, z.2.1⟩)]
theorem Tch.up {X : Nat → Int → Int → Prop} {μ m : aM} {k : Nat} {i j x : Int} (h : Tch X μ m) (hx : X k i j) : Tch X μ (up m k i j x) := fun k' i' j' h' => (up_out (fun z => h' (by rw [z.1, z.2.1, z.2.2]; exact hx))).trans (h k' i' j' h')
def bey (V : Vw) : Prop := ∀ i, vn V ≤ i → i < 6 → va V i = 0 ∧ ∀ j, 0 ≤ j → j < 4 → vr V (4 * i + j) = 0
def vI (μ : aM) : Vw := (μ 31 0 47, μ 31 0 48, t6 (μ 59 0), t6 (μ 60 0), t6 (μ 61 0), t6 (μ 62 0), t6 (bitF (μ 31 0 49)), t24 (μ 63 0))
def WfP (V V' : Vw) (s : Int) : Prop := V' = V ∧ VOk 9999 V ∧ bey V ∧ gOk s
def dPE (k : Nat) (i j : Int) : Prop := i = 0 ∧ ((2 ≤ k ∧ k ≤ 8) ∨ (k = 31 ∧ 0 ≤ j ∧ j ≤ 2) ∨ (32 ≤ k ∧ k ≤ 36))
def PE (μ : aM) : Prop := WfP (vC μ 0) (vM μ) (μ 31 0 2)
def dPK (k : Nat) (i j : Int) : Prop := (i = 1 ∧ 2 ≤ k ∧ k ≤ 8) ∨ (i = 0 ∧ k = 31 ∧ 47 ≤ j ∧ j ≤ 49) ∨ (i = 0 ∧ 59 ≤ k ∧ k ≤ 63)
def PK (μ : aM) : Prop := WfP (vC μ 1) (vI μ) (μ 31 0 49)
def TT (μ : aM) (t : Int) : TDt := (μ 14 t 0, μ 15 t, μ 16 t, μ 17 t, μ 18 t)
def dT1 (t : Int) (k : Nat) (i j : Int) : Prop := (14 ≤ k ∧ k ≤ 18 ∧ i = t) ∨ (i = 0 ∧ ((k = 38 ∧ j = t) ∨ (39 ≤ k ∧ k ≤ 42 ∧ 10 * t ≤ j ∧ j < 10 * t + 10) ∨ (k = 43 ∧ 100 * t ≤ j ∧ j < 100 * t + 100)))
def T1 (μ : aM) (t : Int) : Prop := CTn μ t (TT μ t) ∧ MTn μ t (TT μ t)
def dTW (k : Nat) (i j : Int) : Prop := (14 ≤ k ∧ k ≤ 18) ∨ (i = 0 ∧ ((k = 0 ∧ j = 5) ∨ (k = 31 ∧ j = 8) ∨ (38 ≤ k ∧ k ≤ 43)))
def TWN (μ : aM) : Prop := (0 ≤ μ 0 0 5 ∧ μ 0 0 5 ≤ 6) ∧ μ 31 0 8 = μ 0 0 5 ∧ (∀ t, 0 ≤ t → t < μ 0 0 5 → T1 μ t) ∧ CTn μ 6 (TT μ 6) ∧ μ 14 6 0 = 0
def dHO (k : Nat) (i j : Int) : Prop := (k = 1 ∧ j = 4) ∨ (i = 0 ∧ ((k = 0 ∧ j = 5) ∨ (k = 31 ∧ (j = 9 ∨ j = 46))))
def HO (μ : aM) : Prop := (μ 31 0 9 = μ 1 0 4 ∧ -1 ≤ μ 1 0 4 ∧ μ 1 0 4 < μ 0 0 5) ∧ μ 31 0 46 = μ 1 1 4 ∧ -1 ≤ μ 1 1 4 ∧ μ 1 1 4 < μ 0 0 5
def dIM (k : Nat) (i j : Int) : Prop := i = 0 ∧ ((k = 0 ∧ j = 2) ∨ (k = 31 ∧ j = 45))
def IM (μ : aM) : Prop := μ 31 0 45 = μ 0 0 2
def dTX (k : Nat) (i j : Int) : Prop := i = 0 ∧ ((k = 19 ∧ j = 1) ∨ k = 20 ∨ (k = 31 ∧ j = 10) ∨ k = 37)
def TX (μ : aM) : Prop := μ 31 0 10 = μ 19 0 1 ∧ (0 ≤ μ 19 0 1 ∧ μ 19 0 1 ≤ 100) ∧ ∀ i, 0 ≤ i → i < μ 19 0 1 → μ 37 0 i = μ 20 0 i ∧ 0 ≤ μ 20 0 i ∧ μ 20 0 i ≤ 127
def SN (n n' : Int) (P O D P' O' D' : Int → Int) : Prop := n' = n ∧ (0 ≤ n ∧ n ≤ 5) ∧ ∀ k, 0 ≤ k → k < n → (P' k = P k ∧ O' k = O k ∧ D' k = D k) ∧ (0 ≤ P k ∧ P k < 6) ∧ (0 ≤ D k ∧ D k ≤ 20)
def WK (n n' : Int) (W P W' P' : Int → Int) : Prop := n' = n ∧ (0 ≤ n ∧ n ≤ 10) ∧ ∀ k, 0 ≤ k → k < n → W' k = W k ∧ (0 ≤ W k ∧ W k ≤ 3) ∧ (W k ≠ 0 → P' k = P k ∧ 0 ≤ P k ∧ P k < 6)
def BK (n n' : Int) (P O P' O' : Int → Int) : Prop := n' = n ∧ (0 ≤ n ∧ n ≤ 8) ∧ ∀ k, 0 ≤ k → k < n → P' k = P k ∧ O' k = O k ∧ 0 ≤ P k ∧ P k < 6
def dSN (k : Nat) (i j : Int) : Prop := i = 0 ∧ ((k = 9 ∧ j = 1) ∨ (10 ≤ k ∧ k ≤ 12) ∨ (k = 31 ∧ j = 35) ∨ (52 ≤ k ∧ k ≤ 54))
def SN0 (μ : aM) : Prop := SN (μ 9 0 1) (μ 31 0 35) (μ 10 0) (μ 11 0) (μ 12 0) (μ 52 0) (μ 53 0) (μ 54 0)
def dWK (k : Nat) (i j : Int) : Prop := (i = 1 ∧ ((k = 9 ∧ j = 1) ∨ (10 ≤ k ∧ k ≤ 11))) ∨ (i = 0 ∧ ((k = 31 ∧ j = 39) ∨ (55 ≤ k ∧ k ≤ 56)))
def WK0 (μ : aM) : Prop := WK (μ 9 1 1) (μ 31 0 39) (μ 11 1) (μ 10 1) (μ 55 0) (μ 56 0)
def dBK (k : Nat) (i j : Int) : Prop := (i = 2 ∧ ((k = 9 ∧ j = 1) ∨ (10 ≤ k ∧ k ≤ 11))) ∨ (i = 0 ∧ ((k = 31 ∧ j = 40) ∨ (57 ≤ k ∧ k ≤ 58)))
def BK0 (μ : aM) : Prop := BK (μ 9 2 1) (μ 31 0 40) (μ 10 2) (μ 11 2) (μ 57 0) (μ 58 0)
def dNK (k : Nat) (i j : Int) : Prop := (3 ≤ i ∧ i ≤ 5 ∧ 9 ≤ k ∧ k ≤ 12) ∨ (i = 0 ∧ ((k = 31 ∧ 50 ≤ j ∧ j ≤ 52) ∨ (64 ≤ k ∧ k ≤ 70)))
def NK (μ : aM) : Prop := SN (μ 9 3 1) (μ 31 0 50) (μ 10 3) (μ 11 3) (μ 12 3) (μ 64 0) (μ 65 0) (μ 66 0) ∧ WK (μ 9 4 1) (μ 31 0 51) (μ 11 4) (μ 10 4) (μ 67 0) (μ 68 0) ∧ BK (μ 9 5 1) (μ 31 0 52) (μ 10 5) (μ 11 5) (μ 69 0) (μ 70 0)
def dMO (k : Nat) (i j : Int) : Prop := k = 9 ∧ j = 0 ∧ 0 ≤ i ∧ i ≤ 5
def MO (μ : aM) : Prop := (μ 9 0 0 = 5 ∧ μ 9 1 0 = 10 ∧ μ 9 2 0 = 8) ∧ μ 9 3 0 = 5 ∧ μ 9 4 0 = 10 ∧ μ 9 5 0 = 8
def dAC (k : Nat) (i j : Int) : Prop := i = 0 ∧ ((k = 26 ∧ j = 1) ∨ k = 27 ∨ (k = 31 ∧ j = 65) ∨ k = 71)
def AC (μ : aM) : Prop := μ 31 0 65 = μ 26 0 1 ∧ ∀ i, 0 ≤ i → i < 20 → i < μ 26 0 1 → μ 71 0 i = μ 27 0 i
def dTA (k : Nat) (i j : Int) : Prop := (0 ≤ i ∧ i < 6 ∧ 29 ≤ k ∧ k ≤ 30) ∨ (i = 0 ∧ 72 ≤ k ∧ k ≤ 74)
def TA (μ : aM) : Prop := ∀ t, 0 ≤ t → t < 6 → (μ 72 0 t = μ 29 t 0 ∧ μ 73 0 t = μ 29 t 1) ∧ (-1 ≤ μ 29 t 0 ∧ μ 29 t 0 ≤ 4) ∧ (0 ≤ μ 29 t 1 ∧ μ 29 t 1 ≤ 60) ∧ (μ 29 t 0 = -1 → μ 29 t 1 = 0) ∧ ∀ i, 0 ≤ i → i < 60 → μ 74 0 (60 * t + i) = μ 30 t i
def dMI (k : Nat) (i j : Int) : Prop := i = 0 ∧ ((k = 21 ∧ j = 5) ∨ (k = 31 ∧ j = 25) ∨ k = 45)
def lets (k : Int) : Int := if k = 0 then 108 else if k = 1 then 97 else if k = 2 then 103 else if k = 3 then 104 else if k = 4 then 97 else if k = 5 then 115 else if k = 6 then 116 else if k = 7 then 101 else if k = 8 then 102 else if k = 9 then 97 else if k = 10 then 115 else if k = 11 then 116 else if k = 12 then 108 else if k = 13 then 111 else if k = 14 then 117 else 100
def MI (μ : aM) : Prop := μ 21 0 5 = -1 ∧ μ 31 0 25 = -1 ∧ ∀ k, 0 ≤ k → k < 16 → μ 45 0 k = lets k
def Inv (μ : aM) : Prop := PE μ ∧ PK μ ∧ TWN μ ∧ HO μ ∧ IM μ ∧ TX μ ∧ SN0 μ ∧ WK0 μ ∧ BK0 μ ∧ NK μ ∧ MO μ ∧ AC μ ∧ TA μ ∧ MI μ
theorem Inv.pe {μ : aM} (h : Inv μ) : PE μ := h.1
theorem Inv.pk {μ : aM} (h : Inv μ) : PK μ := h.2.1
theorem Inv.tw {μ : aM} (h : Inv μ) : TWN μ := h.2.2.1
theorem Inv.ho {μ : aM} (h : Inv μ) : HO μ := h.2.2.2.1
theorem Inv.im {μ : aM} (h : Inv μ) : IM μ := h.2.2.2.2.1
theorem Inv.tx {μ : aM} (h : Inv μ) : TX μ := h.2.2.2.2.2.1
theorem Inv.sn {μ : aM} (h : Inv μ) : SN0 μ := h.2.2.2.2.2.2.1
theorem Inv.wk {μ : aM} (h : Inv μ) : WK0 μ := h.2.2.2.2.2.2.2.1
theorem Inv.bk {μ : aM} (h : Inv μ) : BK0 μ := h.2.2.2.2.2.2.2.2.1
theorem Inv.nk {μ : aM} (h : Inv μ) : NK μ := h.2.2.2.2.2.2.2.2.2.1
theorem Inv.mo {μ : aM} (h : Inv μ) : MO μ := h.2.2.2.2.2.2.2.2.2.2.1
theorem Inv.ac {μ : aM} (h : Inv μ) : AC μ := h.2.2.2.2.2.2.2.2.2.2.2.1
theorem Inv.ta {μ : aM} (h : Inv μ) : TA μ := h.2.2.2.2.2.2.2.2.2.2.2.2.1
theorem Inv.mi {μ : aM} (h : Inv μ) : MI μ := h.2.2.2.2.2.2.2.2.2.2.2.2.2
section
variable {X : Nat → Int → Int → Prop} {μ μ' : aM}
theorem Tch.row (t : Tch X μ μ') {k : Nat} {i : Int} (h : ∀ j, ¬ X k i j) : μ' k i = μ k i := funext fun j => t k i j (h j)
theorem PE.mv (t : Tch X μ μ') (hd : ∀ k i j, dPE k i j → ¬ X k i j) (h : PE μ) : PE μ' := by
  unfold PE vC vM at h ⊢
  rw [t 2 0 0 (hd _ _ _ (by unfold dPE; omega)), t 2 0 1 (hd _ _ _ (by unfold dPE; omega)), t.row (k := 3) (i := 0) (fun j => hd _ _ _ (by unfold dPE; omega)), t.row (k := 4) (i := 0) (fun j => hd _ _ _ (by unfold dPE; omega)), t.row (k := 5) (i := 0) (fun j => hd _ _ _ (by unfold dPE; omega)), t.row (k := 6) (i := 0) (fun j => hd _ _ _ (by unfold dPE; omega)), t.row (k := 7) (i := 0) (fun j => hd _ _ _ (by unfold dPE; omega)), t.row (k := 8) (i := 0) (fun j => hd _ _ _ (by unfold dPE; omega)),
    t 31 0 0 (hd _ _ _ (by unfold dPE; omega)), t 31 0 1 (hd _ _ _ (by unfold dPE; omega)), t 31 0 2 (hd _ _ _ (by unfold dPE; omega)), t.row (k := 32) (i := 0) (fun j => hd _ _ _ (by unfold dPE; omega)), t.row (k := 33) (i := 0) (fun j => hd _ _ _ (by unfold dPE; omega)), t.row (k := 34) (i := 0) (fun j => hd _ _ _ (by unfold dPE; omega)), t.row (k := 35) (i := 0) (fun j => hd _ _ _ (by unfold dPE; omega)), t.row (k := 36) (i := 0) (fun j => hd _ _ _ (by unfold dPE; omega))]
  exact h
theorem PK.mv (t : Tch X μ μ') (hd : ∀ k i j, dPK k i j → ¬ X k i j) (h : PK μ) : PK μ' := by
  unfold PK vC vI at h ⊢
  rw [t 2 1 0 (hd _ _ _ (by unfold dPK; omega)), t 2 1 1 (hd _ _ _ (by unfold dPK; omega)), t.row (k := 3) (i := 1) (fun j => hd _ _ _ (by unfold dPK; omega)), t.row (k := 4) (i := 1) (fun j => hd _ _ _ (by unfold dPK; omega)), t.row (k := 5) (i := 1) (fun j => hd _ _ _ (by unfold dPK; omega)), t.row (k := 6) (i := 1) (fun j => hd _ _ _ (by unfold dPK; omega)), t.row (k := 7) (i := 1) (fun j => hd _ _ _ (by unfold dPK; omega)), t.row (k := 8) (i := 1) (fun j => hd _ _ _ (by unfold dPK; omega)),
    t 31 0 47 (hd _ _ _ (by unfold dPK; omega)), t 31 0 48 (hd _ _ _ (by unfold dPK; omega)), t 31 0 49 (hd _ _ _ (by unfold dPK; omega)), t.row (k := 59) (i := 0) (fun j => hd _ _ _ (by unfold dPK; omega)), t.row (k := 60) (i := 0) (fun j => hd _ _ _ (by unfold dPK; omega)), t.row (k := 61) (i := 0) (fun j => hd _ _ _ (by unfold dPK; omega)), t.row (k := 62) (i := 0) (fun j => hd _ _ _ (by unfold dPK; omega)), t.row (k := 63) (i := 0) (fun j => hd _ _ _ (by unfold dPK; omega))]
  exact h
theorem TT.eq {t0 : Int} (t : Tch X μ μ') (hd : ∀ k i j, dT1 t0 k i j → ¬ X k i j) : TT μ' t0 = TT μ t0 := by
  unfold TT
  rw [t 14 t0 0 (hd _ _ _ (by unfold dT1; omega)), t.row (k := 15) (i := t0) (fun j => hd _ _ _ (by unfold dT1; omega)), t.row (k := 16) (i := t0) (fun j => hd _ _ _ (by unfold dT1; omega)), t.row (k := 17) (i := t0) (fun j => hd _ _ _ (by unfold dT1; omega)), t.row (k := 18) (i := t0) (fun j => hd _ _ _ (by unfold dT1; omega))]
theorem CTn.mv {t0 : Int} {T : TDt} (t : Tch X μ μ') (hd : ∀ k i j, 14 ≤ k → k ≤ 18 → i = t0 → ¬ X k i j) (h : CTn μ t0 T) : CTn μ' t0 T := by
  unfold CTn at h ⊢
  rw [t 14 t0 0 (hd _ _ _ (by omega) (by omega) rfl), t.row (k := 15) (i := t0) (fun j => hd _ _ _ (by omega) (by omega) rfl), t.row (k := 16) (i := t0) (fun j => hd _ _ _ (by omega) (by omega) rfl), t.row (k := 17) (i := t0) (fun j => hd _ _ _ (by omega) (by omega) rfl), t.row (k := 18) (i := t0) (fun j => hd _ _ _ (by omega) (by omega) rfl), t 14 t0 2 (hd _ _ _ (by omega) (by omega) rfl), t 14 t0 3 (hd _ _ _ (by omega) (by omega) rfl)]
  exact h
theorem T1.mv {t0 : Int} (t : Tch X μ μ') (hd : ∀ k i j, dT1 t0 k i j → ¬ X k i j) (h : T1 μ t0) : T1 μ' t0 := by
  have hT := h.1.2.1
  obtain ⟨h1, h2, h3⟩ := h
  have e : TT μ' t0 = TT μ t0 := TT.eq t hd
  unfold T1; rw [e]
  refine ⟨h1.mv t (fun k i j k1 k2 k3 => hd k i j (by unfold dT1; omega)), ?_, fun c c0 c1 => ?_⟩
  · rw [t 38 0 t0 (hd _ _ _ (by unfold dT1; omega))]; exact h2
  · obtain ⟨g1, g2, g3⟩ := h3 c c0 c1
    have hl := hT.1
    rw [t 39 0 (10 * t0 + c) (hd _ _ _ (by unfold dT1; omega)), t 40 0 (10 * t0 + c) (hd _ _ _ (by unfold dT1; omega)), t 41 0 (10 * t0 + c) (hd _ _ _ (by unfold dT1; omega)), t 42 0 (10 * t0 + c) (hd _ _ _ (by unfold dT1; omega))]
    refine ⟨g1, g2, fun hw => ⟨(g3 hw).1, (g3 hw).2.1, fun i i0 i1 => ?_⟩⟩
    have := hT.2 c c0 c1
    rw [t 43 0 (100 * t0 + i) (hd _ _ _ (by unfold dT1; omega))]
    exact (g3 hw).2.2 i i0 i1
theorem TWN.mv (t : Tch X μ μ') (hd : ∀ k i j, dTW k i j → ¬ X k i j) (h : TWN μ) : TWN μ' := by
  obtain ⟨h1, h2, h3, h4, h5⟩ := h
  have e : TT μ' 6 = TT μ 6 := TT.eq t (fun k i j z => hd k i j (by unfold dT1 at z; unfold dTW; omega))
  unfold TWN
  rw [t 0 0 5 (hd _ _ _ (by unfold dTW; omega)), t 31 0 8 (hd _ _ _ (by unfold dTW; omega)), t 14 6 0 (hd _ _ _ (by unfold dTW; omega)), e]
  exact ⟨h1, h2, fun s s0 s1 => (h3 s s0 s1).mv t (fun k i j z => hd k i j (by unfold dT1 at z; unfold dTW; omega)), h4.mv t (fun k i j k1 k2 k3 => hd k i j (by unfold dTW; omega)), h5⟩
theorem HO.mv (t : Tch X μ μ') (hd : ∀ k i j, dHO k i j → ¬ X k i j) (h : HO μ) : HO μ' := by
  unfold HO at h ⊢
  rw [t 0 0 5 (hd _ _ _ (by unfold dHO; omega)), t 31 0 9 (hd _ _ _ (by unfold dHO; omega)), t 31 0 46 (hd _ _ _ (by unfold dHO; omega)), t 1 0 4 (hd _ _ _ (by unfold dHO; omega)), t 1 1 4 (hd _ _ _ (by unfold dHO; omega))]
  exact h
theorem IM.mv (t : Tch X μ μ') (hd : ∀ k i j, dIM k i j → ¬ X k i j) (h : IM μ) : IM μ' := by
  unfold IM at h ⊢
  rw [t 0 0 2 (hd _ _ _ (by unfold dIM; omega)), t 31 0 45 (hd _ _ _ (by unfold dIM; omega))]
  exact h
theorem TX.mv (t : Tch X μ μ') (hd : ∀ k i j, dTX k i j → ¬ X k i j) (h : TX μ) : TX μ' := by
  unfold TX at h ⊢
  rw [t 31 0 10 (hd _ _ _ (by unfold dTX; omega)), t 19 0 1 (hd _ _ _ (by unfold dTX; omega)), t.row (k := 37) (i := 0) (fun j => hd _ _ _ (by unfold dTX; omega)), t.row (k := 20) (i := 0) (fun j => hd _ _ _ (by unfold dTX; omega))]
  exact h
theorem SN0.mv (t : Tch X μ μ') (hd : ∀ k i j, dSN k i j → ¬ X k i j) (h : SN0 μ) : SN0 μ' := by
  unfold SN0 at h ⊢
  rw [t 9 0 1 (hd _ _ _ (by unfold dSN; omega)), t 31 0 35 (hd _ _ _ (by unfold dSN; omega)), t.row (k := 10) (i := 0) (fun j => hd _ _ _ (by unfold dSN; omega)), t.row (k := 11) (i := 0) (fun j => hd _ _ _ (by unfold dSN; omega)), t.row (k := 12) (i := 0) (fun j => hd _ _ _ (by unfold dSN; omega)), t.row (k := 52) (i := 0) (fun j => hd _ _ _ (by unfold dSN; omega)), t.row (k := 53) (i := 0) (fun j => hd _ _ _ (by unfold dSN; omega)), t.row (k := 54) (i := 0) (fun j => hd _ _ _ (by unfold dSN; omega))]
  exact h
theorem WK0.mv (t : Tch X μ μ') (hd : ∀ k i j, dWK k i j → ¬ X k i j) (h : WK0 μ) : WK0 μ' := by
  unfold WK0 at h ⊢
  rw [t 9 1 1 (hd _ _ _ (by unfold dWK; omega)), t 31 0 39 (hd _ _ _ (by unfold dWK; omega)), t.row (k := 11) (i := 1) (fun j => hd _ _ _ (by unfold dWK; omega)), t.row (k := 10) (i := 1) (fun j => hd _ _ _ (by unfold dWK; omega)), t.row (k := 55) (i := 0) (fun j => hd _ _ _ (by unfold dWK; omega)), t.row (k := 56) (i := 0) (fun j => hd _ _ _ (by unfold dWK; omega))]
  exact h
theorem BK0.mv (t : Tch X μ μ') (hd : ∀ k i j, dBK k i j → ¬ X k i j) (h : BK0 μ) : BK0 μ' := by
  unfold BK0 at h ⊢
  rw [t 9 2 1 (hd _ _ _ (by unfold dBK; omega)), t 31 0 40 (hd _ _ _ (by unfold dBK; omega)), t.row (k := 10) (i := 2) (fun j => hd _ _ _ (by unfold dBK; omega)), t.row (k := 11) (i := 2) (fun j => hd _ _ _ (by unfold dBK; omega)), t.row (k := 57) (i := 0) (fun j => hd _ _ _ (by unfold dBK; omega)), t.row (k := 58) (i := 0) (fun j => hd _ _ _ (by unfold dBK; omega))]
  exact h
theorem NK.mv (t : Tch X μ μ') (hd : ∀ k i j, dNK k i j → ¬ X k i j) (h : NK μ) : NK μ' := by
  unfold NK at h ⊢
  rw [t 9 3 1 (hd _ _ _ (by unfold dNK; omega)), t 9 4 1 (hd _ _ _ (by unfold dNK; omega)), t 9 5 1 (hd _ _ _ (by unfold dNK; omega)), t 31 0 50 (hd _ _ _ (by unfold dNK; omega)), t 31 0 51 (hd _ _ _ (by unfold dNK; omega)), t 31 0 52 (hd _ _ _ (by unfold dNK; omega)), t.row (k := 10) (i := 3) (fun j => hd _ _ _ (by unfold dNK; omega)), t.row (k := 10) (i := 4) (fun j => hd _ _ _ (by unfold dNK; omega)), t.row (k := 10) (i := 5) (fun j => hd _ _ _ (by unfold dNK; omega)), t.row (k := 11) (i := 3) (fun j => hd _ _ _ (by unfold dNK; omega)), t.row (k := 11) (i := 4) (fun j => hd _ _ _ (by unfold dNK; omega)), t.row (k := 11) (i := 5) (fun j => hd _ _ _ (by unfold dNK; omega)), t.row (k := 12) (i := 3) (fun j => hd _ _ _ (by unfold dNK; omega)), t.row (k := 64) (i := 0) (fun j => hd _ _ _ (by unfold dNK; omega)), t.row (k := 65) (i := 0) (fun j => hd _ _ _ (by unfold dNK; omega)), t.row (k := 66) (i := 0) (fun j => hd _ _ _ (by unfold dNK; omega)), t.row (k := 67) (i := 0) (fun j => hd _ _ _ (by unfold dNK; omega)), t.row (k := 68) (i := 0) (fun j => hd _ _ _ (by unfold dNK; omega)), t.row (k := 69) (i := 0) (fun j => hd _ _ _ (by unfold dNK; omega)), t.row (k := 70) (i := 0) (fun j => hd _ _ _ (by unfold dNK; omega))]
  exact h
theorem MO.mv (t : Tch X μ μ') (hd : ∀ k i j, dMO k i j → ¬ X k i j) (h : MO μ) : MO μ' := by
  unfold MO at h ⊢
  rw [t 9 0 0 (hd _ _ _ (by unfold dMO; omega)), t 9 1 0 (hd _ _ _ (by unfold dMO; omega)), t 9 2 0 (hd _ _ _ (by unfold dMO; omega)), t 9 3 0 (hd _ _ _ (by unfold dMO; omega)), t 9 4 0 (hd _ _ _ (by unfold dMO; omega)), t 9 5 0 (hd _ _ _ (by unfold dMO; omega))]
  exact h
theorem AC.mv (t : Tch X μ μ') (hd : ∀ k i j, dAC k i j → ¬ X k i j) (h : AC μ) : AC μ' := by
  unfold AC at h ⊢
  rw [t 26 0 1 (hd _ _ _ (by unfold dAC; omega)), t 31 0 65 (hd _ _ _ (by unfold dAC; omega)), t.row (k := 71) (i := 0) (fun j => hd _ _ _ (by unfold dAC; omega)), t.row (k := 27) (i := 0) (fun j => hd _ _ _ (by unfold dAC; omega))]
  exact h
theorem TA.mv (t : Tch X μ μ') (hd : ∀ k i j, dTA k i j → ¬ X k i j) (h : TA μ) : TA μ' := by
  intro s s0 s1
  have := h s s0 s1
  rw [t 29 s 0 (hd _ _ _ (by unfold dTA; omega)), t 29 s 1 (hd _ _ _ (by unfold dTA; omega)), t.row (k := 30) (i := s) (fun j => hd _ _ _ (by unfold dTA; omega)), t.row (k := 72) (i := 0) (fun j => hd _ _ _ (by unfold dTA; omega)), t.row (k := 73) (i := 0) (fun j => hd _ _ _ (by unfold dTA; omega)), t.row (k := 74) (i := 0) (fun j => hd _ _ _ (by unfold dTA; omega))]
  exact this
theorem MI.mv (t : Tch X μ μ') (hd : ∀ k i j, dMI k i j → ¬ X k i j) (h : MI μ) : MI μ' := by
  unfold MI at h ⊢
  rw [t 21 0 5 (hd _ _ _ (by unfold dMI; omega)), t 31 0 25 (hd _ _ _ (by unfold dMI; omega)), t.row (k := 45) (i := 0) (fun j => hd _ _ _ (by unfold dMI; omega))]
  exact h
theorem Inv.go (hI : Inv μ) (t : Tch X μ μ')
    (pe : PE μ' ∨ (∀ k i j, dPE k i j → ¬ X k i j) := by (refine Or.inr ?_; intro k i j h1 h2; unfold dPE at h1; omega))
    (pk : PK μ' ∨ (∀ k i j, dPK k i j → ¬ X k i j) := by (refine Or.inr ?_; intro k i j h1 h2; unfold dPK at h1; omega))
    (tw : TWN μ' ∨ (∀ k i j, dTW k i j → ¬ X k i j) := by (refine Or.inr ?_; intro k i j h1 h2; unfold dTW at h1; omega))
    (ho : HO μ' ∨ (∀ k i j, dHO k i j → ¬ X k i j) := by (refine Or.inr ?_; intro k i j h1 h2; unfold dHO at h1; omega))
    (im : IM μ' ∨ (∀ k i j, dIM k i j → ¬ X k i j) := by (refine Or.inr ?_; intro k i j h1 h2; unfold dIM at h1; omega))
    (tx : TX μ' ∨ (∀ k i j, dTX k i j → ¬ X k i j) := by (refine Or.inr ?_; intro k i j h1 h2; unfold dTX at h1; omega))
    (sn : SN0 μ' ∨ (∀ k i j, dSN k i j → ¬ X k i j) := by (refine Or.inr ?_; intro k i j h1 h2; unfold dSN at h1; omega))
    (wk : WK0 μ' ∨ (∀ k i j, dWK k i j → ¬ X k i j) := by (refine Or.inr ?_; intro k i j h1 h2; unfold dWK at h1; omega))
    (bk : BK0 μ' ∨ (∀ k i j, dBK k i j → ¬ X k i j) := by (refine Or.inr ?_; intro k i j h1 h2; unfold dBK at h1; omega))
    (nk : NK μ' ∨ (∀ k i j, dNK k i j → ¬ X k i j) := by (refine Or.inr ?_; intro k i j h1 h2; unfold dNK at h1; omega))
    (mo : MO μ' ∨ (∀ k i j, dMO k i j → ¬ X k i j) := by (refine Or.inr ?_; intro k i j h1 h2; unfold dMO at h1; omega))
    (ac : AC μ' ∨ (∀ k i j, dAC k i j → ¬ X k i j) := by (refine Or.inr ?_; intro k i j h1 h2; unfold dAC at h1; omega))
    (ta : TA μ' ∨ (∀ k i j, dTA k i j → ¬ X k i j) := by (refine Or.inr ?_; intro k i j h1 h2; unfold dTA at h1; omega))
    (mi : MI μ' ∨ (∀ k i j, dMI k i j → ¬ X k i j) := by (refine Or.inr ?_; intro k i j h1 h2; unfold dMI at h1; omega)) : Inv μ' :=
  ⟨pe.elim id (fun h => hI.pe.mv t h), pk.elim id (fun h => hI.pk.mv t h), tw.elim id (fun h => hI.tw.mv t h), ho.elim id (fun h => hI.ho.mv t h), im.elim id (fun h => hI.im.mv t h), tx.elim id (fun h => hI.tx.mv t h), sn.elim id (fun h => hI.sn.mv t h), wk.elim id (fun h => hI.wk.mv t h), bk.elim id (fun h => hI.bk.mv t h), nk.elim id (fun h => hI.nk.mv t h), mo.elim id (fun h => hI.mo.mv t h), ac.elim id (fun h => hI.ac.mv t h), ta.elim id (fun h => hI.ta.mv t h), mi.elim id (fun h => hI.mi.mv t h)⟩
theorem TFr.tch (h : TFr μ μ') : Tch (fun k i _ => (2 ≤ k ∧ k ≤ 8 ∧ i = 2) ∨ (21 ≤ k ∧ k ≤ 25)) μ μ' := fun k i j hx => congrFun (h k i (fun z1 z2 z3 => hx (Or.inl ⟨z1, z2, z3⟩)) (by omega)) j
theorem Inv.q (hI : Inv μ) (h : QFr μ μ') : Inv μ' := by
  have t := h.1.tch
  have t' : Tch (fun k i j => (2 ≤ k ∧ k ≤ 8 ∧ i = 2) ∨ (21 ≤ k ∧ k ≤ 25 ∧ ¬ (k = 21 ∧ i = 0 ∧ j = 5))) μ μ' := fun k i j hx => by
    by_cases e : k = 21 ∧ i = 0 ∧ j = 5
    · rw [e.1, e.2.1, e.2.2, h.2, hI.mi.1]
    · exact t k i j (fun z => hx (by omega))
  clear t
  exact hI.go t'
theorem Inv.k (hI : Inv μ) (h : KFr μ μ') : Inv μ' := by
  have t : Tch (fun k i j => (k = 31 ∧ (i ≠ 0 ∨ j = 1 ∨ j = 2 ∨ j = 27 ∨ j = 31 ∨ j = 32)) ∨ (34 ≤ k ∧ k ≤ 35) ∨ (46 ≤ k ∧ k ≤ 51)) μ μ' := fun k i j hx => by
    by_cases e : k = 31
    · subst e
      have hi : i = 0 := by omega
      subst hi
      by_cases e : j = 25
      · rw [e, h.2.2.2, hI.mi.2.1]
      · exact h.1.2 j (by omega) (by omega) e (by omega) (by omega) (by omega)
    · exact congrFun (congrFun (h.1.1 k (by simp; omega)) i) j
  have hc : vC μ' 0 = vC μ 0 := by
    unfold vC
    rw [h.1.1 2 (by decide), h.1.1 3 (by decide), h.1.1 4 (by decide), h.1.1 5 (by decide), h.1.1 6 (by decide), h.1.1 7 (by decide), h.1.1 8 (by decide)]
  have pe : PE μ' := by
    have := hI.pe
    unfold PE at this ⊢
    rw [hc, h.2.1, h.2.2.1]; exact this
  exact hI.go t (pe := Or.inl pe)
end
def TH (μ : aM) : TDt := if μ 1 0 4 < 0 then TT μ 6 else TT μ (μ 1 0 4)
theorem Inv.cc {μ : aM} (hI : Inv μ) : CC μ (vC μ 0) (TH μ) := by
  obtain ⟨h1, h2, h3, h4, h5⟩ := hI.tw
  obtain ⟨⟨g1, g2, g3⟩, -⟩ := hI.ho
  unfold TH
  split
  · rename_i e
    exact ⟨rfl, hI.pe.2.1, h4.2.1, Or.inl ⟨Or.inl e, h4⟩⟩
  · rename_i e
    have := h3 (μ 1 0 4) (by omega) g3
    exact ⟨rfl, hI.pe.2.1, this.1.2.1, Or.inr ⟨⟨by omega, g3⟩, h1.2, this.1⟩⟩
theorem Inv.cm {μ : aM} (hI : Inv μ) : CM μ (vC μ 0) (TH μ) := by
  obtain ⟨h1, h2, h3, h4, h5⟩ := hI.tw
  obtain ⟨⟨g1, g2, g3⟩, -⟩ := hI.ho
  refine ⟨hI.pe.1, hI.pe.2.1, hI.cc.2.2.1, ?_, hI.mi.2.1⟩
  unfold TH MHn
  rw [g1]
  split
  · rename_i e
    exact Or.inl ⟨by omega, h5⟩
  · rename_i e
    exact Or.inr ⟨by omega, (h3 (μ 1 0 4) (by omega) g3).2⟩
theorem TH.q {μ μ' : aM} (h : QFr μ μ') : TH μ' = TH μ ∧ vC μ' 0 = vC μ 0 := by
  have t := h.1.tch
  have e1 : μ' 1 0 4 = μ 1 0 4 := t 1 0 4 (by omega)
  refine ⟨?_, h.1.c⟩
  unfold TH
  rw [e1, TT.eq t (fun k i j z => by unfold dT1 at z; omega), TT.eq t (fun k i j z => by unfold dT1 at z; omega)]
/-- the two programs, asked one after the other, answer alike -/
def Pair (g : aG) (d mP mM : Nat) (as : List aV) (μ : aM) : Prop := ∀ Q : aQ, (∀ (v : Int) μ1, (∀ Q' : aQ, (∀ μ2, Inv μ2 → Q' (some (aI v)) μ2) → Cal g d mM (aR 31 0 :: as) μ1 Q') → Q (some (aI v)) μ1) → Cal g d mP (aR 0 0 :: as) μ Q
def PairL (g : aG) (d mP mM : Nat) (as : List aV) (μ : aM) : Prop := ∀ Q : aQ, (∀ (v : Int) μ1, (∀ Q' : aQ, (∀ μ2, Inv μ2 → Q' (some (aL v)) μ2) → Cal g d mM (aR 31 0 :: as) μ1 Q') → Q (some (aL v)) μ1) → Cal g d mP (aR 0 0 :: as) μ Q
theorem Pair.q {g : aG} {d mP mM : Nat} {as : List aV} {μ : aM} (v : Int) (hI : Inv μ) (hP : ∀ Q : aQ, (∀ μ1, QFr μ μ1 → Q (some (aI v)) μ1) → Cal g d mP (aR 0 0 :: as) μ Q) (hM : ∀ μ1, Inv μ1 → QFr μ μ1 → TH μ1 = TH μ → vC μ1 0 = vC μ 0 → ∀ Q' : aQ, (∀ μ2, KFr μ1 μ2 → Q' (some (aI v)) μ2) → Cal g d mM (aR 31 0 :: as) μ1 Q') : Pair g d mP mM as μ :=
  fun Q h => hP Q (fun μ1 hq => h v μ1 (fun Q' h' => hM μ1 (hI.q hq) hq (TH.q hq).1 (TH.q hq).2 Q' (fun μ2 hk => h' μ2 ((hI.q hq).k hk))))
theorem PairL.q {g : aG} {d mP mM : Nat} {as : List aV} {μ : aM} (v : Int) (hI : Inv μ) (hP : ∀ Q : aQ, (∀ μ1, QFr μ μ1 → Q (some (aL v)) μ1) → Cal g d mP (aR 0 0 :: as) μ Q) (hM : ∀ μ1, Inv μ1 → QFr μ μ1 → TH μ1 = TH μ → vC μ1 0 = vC μ 0 → ∀ Q' : aQ, (∀ μ2, KFr μ1 μ2 → Q' (some (aL v)) μ2) → Cal g d mM (aR 31 0 :: as) μ1 Q') : PairL g d mP mM as μ :=
  fun Q h => hP Q (fun μ1 hq => h v μ1 (fun Q' h' => hM μ1 (hI.q hq) hq (TH.q hq).1 (TH.q hq).2 Q' (fun μ2 hk => h' μ2 ((hI.q hq).k hk))))
