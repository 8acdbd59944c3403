/-! The questions, asked of both. -/
section
variable {g : aG} {μ : aM} {p w x n a b r : Int}
theorem hI_hz {μ : aM} (hI : Inv μ) : ∀ i, vn (vC μ 0) ≤ i → i < 6 → va (vC μ 0) i = 0 := fun i h1 h2 => (hI.pe.2.2.1 i h1 h2).1
theorem hI_g {μ : aM} (hI : Inv μ) : gOk (μ 31 0 2) := hI.pe.2.2.2
theorem j_told (hI : Inv μ) : Pair g 40 m_P_told m_M_told [aI w] μ :=
  Pair.q (toldV (TH μ) (vC μ 0) w) hI (fun _ h => c_P_told (d := 38) hI.cc hI.mi.1 (hI_hz hI) h) (fun μ1 h1 _ hT hV _ h' => c_M_told (d := 36) (by rw [← hT, ← hV]; exact h1.cm) (hI_g h1) h')
theorem j_of (hI : Inv μ) : Pair g 40 m_P_of m_M_of [aI p, aI w] μ :=
  Pair.q (ofV (TH μ) (vC μ 0) p w) hI (fun _ h => c_P_of (d := 34) hI.cc hI.mi.1 h) (fun μ1 h1 _ hT hV _ h' => c_M_of (d := 33) (by rw [← hT, ← hV]; exact h1.cm) h')
theorem j_until (hI : Inv μ) : Pair g 40 m_P_until m_M_until [aI w] μ :=
  Pair.q (untilV (TH μ) (vC μ 0) w) hI (fun _ h => c_P_until (d := 33) hI.cc hI.mi.1 h) (fun μ1 h1 _ hT hV _ h' => c_M_until (d := 31) (by rw [← hT, ← hV]; exact h1.cm) h')
theorem j_prompt (hI : Inv μ) : Pair g 40 m_P_prompt m_M_prompt [] μ :=
  Pair.q (promptV (TH μ) (vC μ 0)) hI (fun _ h => c_P_prompt (d := 33) hI.cc hI.mi.1 h) (fun μ1 h1 _ hT hV _ h' => c_M_prompt (d := 30) (by rw [← hT, ← hV]; exact h1.cm) h')
theorem j_best (hI : Inv μ) : Pair g 40 m_P_best m_M_best [aI p] μ :=
  Pair.q (bestV (TH μ) (vC μ 0) p) hI (fun _ h => c_P_best (d := 33) hI.cc hI.mi.1 h) (fun μ1 h1 _ hT hV _ h' => c_M_best (d := 30) (by rw [← hT, ← hV]; exact h1.cm) h')
theorem j_when (hI : Inv μ) : Pair g 40 m_P_when m_M_when [aI p] μ :=
  Pair.q (whenV (TH μ) (vC μ 0) p) hI (fun _ h => c_P_when (d := 33) hI.cc hI.mi.1 h) (fun μ1 h1 _ hT hV _ h' => c_M_when (d := 30) (by rw [← hT, ← hV]; exact h1.cm) h')
theorem j_apart (hI : Inv μ) : Pair g 40 m_P_apart m_M_apart [aI a, aI b, aI n] μ :=
  Pair.q (apartV (TH μ) (vC μ 0) a b n) hI (fun _ h => c_P_apart (d := 34) hI.cc hI.mi.1 h) (fun μ1 h1 _ hT hV _ h' => c_M_apart (d := 32) (by rw [← hT, ← hV]; exact h1.cm) h')
theorem j_on (hI : Inv μ) (hw : -2147483648 ≤ w ∧ w < 2147483648) : Pair g 40 m_P_on m_M_on [aI n, aI w] μ :=
  Pair.q (onV (TH μ) (vC μ 0) n w) hI (fun _ h => c_P_on (d := 33) hI.cc hI.mi.1 hw h) (fun μ1 h1 _ hT hV _ h' => c_M_on (d := 31) (by rw [← hT, ← hV]; exact h1.cm) h')
theorem j_who (hI : Inv μ) : Pair g 40 m_P_who m_M_who [aI r, aI n] μ :=
  Pair.q (whoV (TH μ) (vC μ 0) r n) hI (fun _ h => c_P_who (d := 33) hI.cc hI.mi.1 h) (fun μ1 h1 _ hT hV _ h' => c_M_who (d := 31) (by rw [← hT, ← hV]; exact h1.cm) h')
theorem j_odds (hI : Inv μ) : PairL g 40 m_P_odds m_M_odds [aI n, aI x] μ :=
  PairL.q (oddsV (TH μ) (vC μ 0) n x) hI (fun _ h => c_P_odds (d := 33) hI.cc hI.mi.1 h) (fun μ1 h1 _ hT hV _ h' => c_M_odds (d := 31) (by rw [← hT, ← hV]; exact h1.cm) (hI_g h1) h')
theorem j_mean (hI : Inv μ) : PairL g 40 m_P_mean m_M_mean [aI n, aI x] μ :=
  PairL.q (meanV (TH μ) (vC μ 0) n x) hI (fun _ h => c_P_mean (d := 33) hI.cc hI.mi.1 h) (fun μ1 h1 _ hT hV _ h' => c_M_mean (d := 31) (by rw [← hT, ← hV]; exact h1.cm) h')
theorem seenB_cong {T : TDt} {V : Vw} {W O D W' O' D' : Int → Int} {n : Int} (h0 : 0 ≤ n) (h : ∀ k, 0 ≤ k → k < n → W' k = W k ∧ O' k = O k ∧ D' k = D k) : seenB T V W' O' D' n = seenB T V W O D n := by
  unfold seenB
  refine fI_cong (n := n) (fun c k k0 k1 => ?_) n h0 (by omega)
  obtain ⟨h1, h2, h3⟩ := h k k0 k1
  rw [h1, h2, h3]
theorem goneK_cong {T : TDt} {V : Vw} {W P W' P' : Int → Int} {n : Int} (h0 : 0 ≤ n) (h : ∀ k, 0 ≤ k → k < n → W' k = W k ∧ (W k ≠ 0 → P' k = P k)) : goneK T V W' P' n = goneK T V W P n := by
  unfold goneK
  refine fI_cong (n := n) (fun c k k0 k1 => ?_) n h0 (by omega)
  obtain ⟨h1, h2⟩ := h k k0 k1
  by_cases e : W k = 0
  · show gStep T c (W' k) (P' k) = gStep T c (W k) (P k)
    unfold gStep; rw [h1, if_pos e, if_pos e]
  · show gStep T c (W' k) (P' k) = gStep T c (W k) (P k)
    rw [h1, h2 e]
theorem SN.ok {n n' : Int} {P O D P' O' D' : Int → Int} (h : SN n n' P O D P' O' D') : SnOk P D n ∧ SnOk P' D' n' := by
  obtain ⟨h1, h2, h3⟩ := h
  refine ⟨⟨h2, fun k k0 k1 => (h3 k k0 k1).2⟩, by rw [h1]; exact h2, fun k k0 k1 => ?_⟩
  rw [h1] at k1
  obtain ⟨⟨e1, e2, e3⟩, h4⟩ := h3 k k0 k1
  rw [e1, e3]; exact h4
theorem j_was (hI : Inv μ) : Pair g 40 m_P_was m_M_was [aI p, aI w] μ := by
  refine Pair.q (wasV (TH μ) (vC μ 0) (μ 10 0) (μ 11 0) (μ 12 0) (μ 9 0 1) p w) hI (fun _ h => c_P_was (d := 33) hI.cc hI.mi.1 (SN.ok hI.sn).1 h) (fun μ1 h1 hq hT hV _ h' => c_M_was (d := 30) (V := vC μ 0) (T := TH μ) (by rw [← hT, ← hV]; exact h1.cm) (SN.ok h1.sn).2 ?_)
  have hs := hI.sn
  have t := hq.1.tch
  have e : wasV (TH μ) (vC μ 0) (μ1 52 0) (μ1 53 0) (μ1 54 0) (μ1 31 0 35) p w = wasV (TH μ) (vC μ 0) (μ 10 0) (μ 11 0) (μ 12 0) (μ 9 0 1) p w := by
    rw [t.row (k := 52) (i := 0) (fun j => by omega), t.row (k := 53) (i := 0) (fun j => by omega), t.row (k := 54) (i := 0) (fun j => by omega), t 31 0 35 (by omega)]
    obtain ⟨e1, e2, e3⟩ := hs
    have e4 : ∀ p, wasP (TH μ) (vC μ 0) p (μ 52 0) (μ 53 0) (μ 54 0) (μ 9 0 1) = wasP (TH μ) (vC μ 0) p (μ 10 0) (μ 11 0) (μ 12 0) (μ 9 0 1) := fun p => funext fun k => seenB_cong e2.1 (fun k k0 k1 => (e3 k k0 k1).1)
    rw [e1]
    unfold wasV
    rw [e4]
  rw [e]; exact h'
theorem j_can (hI : Inv μ) : Pair g 40 m_P_can m_M_can [aI p, aI w] μ := by
  refine Pair.q (canV (TH μ) (vC μ 0) (μ 10 0) (μ 11 0) (μ 12 0) (μ 9 0 1) p w) hI (fun _ h => c_P_can (d := 33) hI.cc hI.mi.1 (SN.ok hI.sn).1 h) (fun μ1 h1 hq hT hV _ h' => c_M_can (d := 30) (V := vC μ 0) (T := TH μ) (by rw [← hT, ← hV]; exact h1.cm) (SN.ok h1.sn).2 ?_)
  have hs := hI.sn
  have t := hq.1.tch
  have e : canV (TH μ) (vC μ 0) (μ1 52 0) (μ1 53 0) (μ1 54 0) (μ1 31 0 35) p w = canV (TH μ) (vC μ 0) (μ 10 0) (μ 11 0) (μ 12 0) (μ 9 0 1) p w := by
    rw [t.row (k := 52) (i := 0) (fun j => by omega), t.row (k := 53) (i := 0) (fun j => by omega), t.row (k := 54) (i := 0) (fun j => by omega), t 31 0 35 (by omega)]
    obtain ⟨e1, e2, e3⟩ := hs
    have e4 : ∀ p, canP (TH μ) (vC μ 0) p (μ 52 0) (μ 53 0) (μ 54 0) (μ 9 0 1) = canP (TH μ) (vC μ 0) p (μ 10 0) (μ 11 0) (μ 12 0) (μ 9 0 1) := fun p => funext fun k => seenB_cong e2.1 (fun k k0 k1 => (e3 k k0 k1).1)
    rw [e1]
    unfold canV
    rw [e4]
  rw [e]; exact h'
theorem WK.ok {n n' : Int} {W P W' P' : Int → Int} (h : WK n n' W P W' P') : WkOk W P n ∧ WkOk W' P' n' := by
  obtain ⟨h1, h2, h3⟩ := h
  refine ⟨⟨h2, fun k k0 k1 => ⟨(h3 k k0 k1).2.1, fun z => ((h3 k k0 k1).2.2 z).2⟩⟩, by rw [h1]; exact h2, fun k k0 k1 => ?_⟩
  rw [h1] at k1
  obtain ⟨e1, e2, e3⟩ := h3 k k0 k1
  rw [e1]; exact ⟨e2, fun z => by rw [(e3 z).1]; exact (e3 z).2⟩
theorem j_gone (hI : Inv μ) : Pair g 40 m_P_gone m_M_gone [aI x] μ := by
  refine Pair.q (goneV (TH μ) (vC μ 0) (μ 11 1) (μ 10 1) (μ 9 1 1) x) hI (fun _ h => c_P_gone (d := 33) hI.cc hI.mi.1 (WK.ok hI.wk).1 h) (fun μ1 h1 hq hT hV _ h' => c_M_gone (d := 32) (V := vC μ 0) (T := TH μ) (by rw [← hT, ← hV]; exact h1.cm) (hI_g h1) (WK.ok h1.wk).2 ?_)
  have hs := hI.wk
  have t := hq.1.tch
  have e : goneV (TH μ) (vC μ 0) (μ1 55 0) (μ1 56 0) (μ1 31 0 39) x = goneV (TH μ) (vC μ 0) (μ 11 1) (μ 10 1) (μ 9 1 1) x := by
    rw [t.row (k := 55) (i := 0) (fun j => by omega), t.row (k := 56) (i := 0) (fun j => by omega), t 31 0 39 (by omega)]
    obtain ⟨e1, e2, e3⟩ := hs
    unfold goneV
    rw [e1, goneK_cong e2.1 (fun k k0 k1 => ⟨(e3 k k0 k1).1, fun z => ((e3 k k0 k1).2.2 z).1⟩)]
  rw [e]; exact h'
/-- both answer from what stands -/
theorem Pair.s {g : aG} {d mP mM : Nat} {as : List aV} {μ : aM} (v : Int) (hI : Inv μ) (hP : ∀ Q : aQ, Q (some (aI v)) μ → Cal g d mP (aR 0 0 :: as) μ Q) (hM : ∀ Q' : aQ, Q' (some (aI v)) μ → Cal g d mM (aR 31 0 :: as) μ Q') : Pair g d mP mM as μ :=
  fun Q h => hP Q (h v μ (fun Q' h' => hM Q' (h' μ hI)))
theorem PairL.s {g : aG} {d mP mM : Nat} {as : List aV} {μ : aM} (v : Int) (hI : Inv μ) (hP : ∀ Q : aQ, Q (some (aL v)) μ → Cal g d mP (aR 0 0 :: as) μ Q) (hM : ∀ Q' : aQ, Q' (some (aL v)) μ → Cal g d mM (aR 31 0 :: as) μ Q') : PairL g d mP mM as μ :=
  fun Q h => hP Q (h v μ (fun Q' h' => hM Q' (h' μ hI)))
theorem V_at {V V' : Vw} (h : V = V') : vn V = vn V' ∧ vd V = vd V' ∧ (∀ i, vk V i = vk V' i) ∧ (∀ i, vv V i = vv V' i) ∧ (∀ i, vu V i = vu V' i) ∧ (∀ i, vo V i = vo V' i) ∧ (∀ i, va V i = va V' i) ∧ (∀ i, vr V i = vr V' i) := by subst h; exact ⟨rfl, rfl, fun _ => rfl, fun _ => rfl, fun _ => rfl, fun _ => rfl, fun _ => rfl, fun _ => rfl⟩
theorem hI_n {μ : aM} (hI : Inv μ) : μ 31 0 0 = μ 2 0 0 ∧ 0 ≤ μ 2 0 0 ∧ μ 2 0 0 ≤ 6 := ⟨(V_at hI.pe.1).1, hI.pe.2.1.1⟩
theorem hI_k {μ : aM} (hI : Inv μ) {i : Int} (h0 : 0 ≤ i) (h1 : i < 6) : μ 32 0 i = μ 3 0 i ∧ 0 ≤ μ 3 0 i ∧ μ 3 0 i ≤ 6 := by
  have e : t6 (μ 32 0) i = t6 (μ 3 0) i := (V_at hI.pe.1).2.2.1 i
  have h : 0 ≤ t6 (μ 3 0) i ∧ t6 (μ 3 0) i ≤ 6 := (hI.pe.2.1.2.2 i h0 h1).1
  rw [t6_in h0 h1] at e h; rw [t6_in h0 h1] at e
  exact ⟨e, h⟩
theorem hI_v {μ : aM} (hI : Inv μ) {i : Int} (h0 : 0 ≤ i) (h1 : i < 6) : μ 33 0 i = μ 4 0 i ∧ 0 ≤ μ 4 0 i ∧ μ 4 0 i ≤ 9 := by
  have e : t6 (μ 33 0) i = t6 (μ 4 0) i := (V_at hI.pe.1).2.2.2.1 i
  have h : 0 ≤ t6 (μ 4 0) i ∧ t6 (μ 4 0) i ≤ 9 := (hI.pe.2.1.2.2 i h0 h1).2.1
  rw [t6_in h0 h1] at e h; rw [t6_in h0 h1] at e
  exact ⟨e, h⟩
theorem hI_u {μ : aM} (hI : Inv μ) {i : Int} (h0 : 0 ≤ i) (h1 : i < 6) : μ 34 0 i = μ 5 0 i ∧ 0 ≤ μ 5 0 i ∧ μ 5 0 i ≤ 99 := by
  have e : t6 (μ 34 0) i = t6 (μ 5 0) i := (V_at hI.pe.1).2.2.2.2.1 i
  have h : 0 ≤ t6 (μ 5 0) i ∧ t6 (μ 5 0) i ≤ 99 := (hI.pe.2.1.2.2 i h0 h1).2.2.1
  rw [t6_in h0 h1] at e h; rw [t6_in h0 h1] at e
  exact ⟨e, h⟩
theorem hI_o {μ : aM} (hI : Inv μ) {i : Int} (h0 : 0 ≤ i) (h1 : i < 6) : μ 35 0 i = μ 6 0 i ∧ -999 ≤ μ 6 0 i ∧ μ 6 0 i ≤ 999 := by
  have e : t6 (μ 35 0) i = t6 (μ 6 0) i := (V_at hI.pe.1).2.2.2.2.2.1 i
  have h : -999 ≤ t6 (μ 6 0) i ∧ t6 (μ 6 0) i ≤ 999 := (hI.pe.2.1.2.2 i h0 h1).2.2.2.1
  rw [t6_in h0 h1] at e h; rw [t6_in h0 h1] at e
  exact ⟨e, h⟩
theorem j_looked (hI : Inv μ) : Pair g 40 m_P_looked m_M_looked [] μ := by
  obtain ⟨e1, e2, e3⟩ := hI.bk
  let R : Int := (fI (fun s k => if s < 0 ∧ μ 6 0 (μ 10 2 k) ≠ μ 11 2 k then k else s) (-5) (μ 9 2 1))
  have e3' : ∀ k, 0 ≤ k → k < μ 9 2 1 → μ 35 0 (μ 57 0 k) = μ 6 0 (μ 10 2 k) ∧ μ 58 0 k = μ 11 2 k ∧ 0 ≤ μ 57 0 k ∧ μ 57 0 k < 6 ∧ 0 ≤ μ 10 2 k ∧ μ 10 2 k < 6 := fun k k0 k1 => by
    obtain ⟨f1, f2, f3, f4⟩ := e3 k k0 k1
    rw [f1]; exact ⟨(hI_o hI f3 f4).1, f2, f3, f4, f3, f4⟩
  clear e3
  have key : ∀ Q : Int → Prop, Q R → ∀ s, 0 ≤ s → s ≤ μ 9 2 1 → (∀ k, 0 ≤ k → k < s → μ 6 0 (μ 10 2 k) = μ 11 2 k) → (s = μ 9 2 1 → Q (-5)) ∧ (s < μ 9 2 1 → μ 6 0 (μ 10 2 s) ≠ μ 11 2 s → Q s) := by
    intro Q hQ s s0 s1 hs
    have hA : ∀ t, 0 ≤ t → t ≤ s → fI (fun s k => if s < 0 ∧ μ 6 0 (μ 10 2 k) ≠ μ 11 2 k then k else s) (-5) t = -5 := by
      intro t t0
      obtain ⟨k, rfl⟩ : ∃ k : Nat, t = (k : Int) := ⟨t.toNat, by omega⟩
      induction k with
      | zero => intro _; rfl
      | succ k ih =>
        intro h
        rw [show ((k + 1 : Nat) : Int) = (k : Int) + 1 by omega, fI_s (by omega), ih (by omega) (by omega), if_neg (fun z => z.2 (hs _ (by omega) (by omega)))]
    have hB : s < μ 9 2 1 → μ 6 0 (μ 10 2 s) ≠ μ 11 2 s → ∀ t, s + 1 ≤ t → fI (fun s k => if s < 0 ∧ μ 6 0 (μ 10 2 k) ≠ μ 11 2 k then k else s) (-5) t = s := by
      intro h1 h2 t ht
      obtain ⟨k, rfl⟩ : ∃ k : Nat, t = s + 1 + (k : Int) := ⟨(t - s - 1).toNat, by omega⟩
      induction k with
      | zero => rw [show s + 1 + ((0 : Nat) : Int) = s + 1 by omega, fI_s s0, hA s s0 (by omega), if_pos ⟨by omega, h2⟩]
      | succ k ih => rw [show s + 1 + ((k + 1 : Nat) : Int) = (s + 1 + (k : Int)) + 1 by omega, fI_s (by omega), ih (by omega), if_neg (fun z => by omega)]
    refine ⟨fun e => ?_, fun h1 h2 => ?_⟩
    · have := hA s s0 (by omega)
      rw [e] at this
      rw [← this]; exact hQ
    · have := hB h1 h2 (μ 9 2 1) (by omega)
      rw [← this]; exact hQ
  refine Pair.s R hI (fun Q h => ?_) (fun Q h => ?_)
  · refine T_P_looked (d := 39) (k1 := loopR (n := μ 9 2 1) (fun p (m : aM) => Rn g 39 m_P_looked 10 [some (aR 0 0), some (aR 9 2), some (aI p)] [] m Q) (fun p m => m = μ ∧ ∀ k, 0 ≤ k → k < p → μ 6 0 (μ 10 2 k) = μ 11 2 k) ?_ ?_ 0 μ (by omega) (by omega) ⟨rfl, fun k k0 k1 => absurd k1 (by omega)⟩)
    · rintro p m h0 hp ⟨rfl, hq⟩ ih
      have hk := key (fun x => Q (some (aI x)) m) h p h0 (by omega) hq
      have := e3' p h0 hp
      refine B_P_looked_10 (k1 := fun z => absurd z (by omega)) (k2 := fun _ z => ih _ ⟨rfl, fun k k0 k1 => ?_⟩) (k3 := fun _ z => hk.2 hp z)
      by_cases e : k = p
      · rw [e]; exact z
      · exact hq k k0 (by omega)
    · rintro m ⟨rfl, hq⟩
      have hk := key (fun x => Q (some (aI x)) m) h (m 9 2 1) e2.1 (by omega) hq
      exact B_P_looked_10 (k1 := fun _ => hk.1 rfl) (k2 := fun z => absurd z (by omega)) (k3 := fun z => absurd z (by omega))
  · refine T_M_looked (d := 39) (k1 := loopR (n := μ 9 2 1) (fun p (m : aM) => Rn g 39 m_M_looked 2 [some (aR 31 0), some (aI p)] [] m Q) (fun p m => m = μ ∧ ∀ k, 0 ≤ k → k < p → μ 6 0 (μ 10 2 k) = μ 11 2 k) ?_ ?_ 0 μ (by omega) (by omega) ⟨rfl, fun k k0 k1 => absurd k1 (by omega)⟩)
    · rintro p m h0 hp ⟨rfl, hq⟩ ih
      have hk := key (fun x => Q (some (aI x)) m) h p h0 (by omega) hq
      obtain ⟨f1, f2, f3, f4, f5⟩ := e3' p h0 hp
      refine B_M_looked_2 (k1 := fun z => absurd z (by omega)) (k2 := fun _ z => ih _ ⟨rfl, fun k k0 k1 => ?_⟩) (k3 := fun _ z => hk.2 hp (by rw [← f1, ← f2]; exact z))
      by_cases e : k = p
      · rw [e, ← f1, ← f2]; exact z
      · exact hq k k0 (by omega)
    · rintro m ⟨rfl, hq⟩
      have hk := key (fun x => Q (some (aI x)) m) h (m 9 2 1) e2.1 (by omega) hq
      exact B_M_looked_2 (k1 := fun _ => hk.1 rfl) (k2 := fun z => absurd z (by omega)) (k3 := fun z => absurd z (by omega))
end
