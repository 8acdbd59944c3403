/-! The LAG of one, on both sides. A town: how many clauses, their words, numbers, ends, the code. -/
abbrev TDt : Type := Int × (Int → Int) × (Int → Int) × (Int → Int) × (Int → Int)
def frF (en : Int → Int) (c : Int) : Int := if c = 0 then 0 else en (c - 1)
def cTerm (T : TDt) (fact : Int → Int) (c : Int) : Int := if T.2.1 c = 0 then (if holdF fact T.2.2.2.2 (frF T.2.2.2.1 c) (T.2.2.2.1 c) = true then T.2.2.1 c else 0) else if T.2.1 c = 1 then (if holdF fact T.2.2.2.2 (frF T.2.2.2.1 c) (T.2.2.2.1 c) = true then -(T.2.2.1 c) else 0) else 0
def lagT (T : TDt) (fact : Int → Int) : Int := fI (fun s c => s + cTerm T fact c) 0 T.1
def fastT (T : TDt) : Int := fI (fun n c => if T.2.1 c = 2 then T.2.2.1 c else n) 0 T.1
def loudT (T : TDt) : Int := fI (fun n c => if T.2.1 c = 3 then T.2.2.1 c else n) 5 T.1
def TDok (T : TDt) : Prop := (0 ≤ T.1 ∧ T.1 ≤ 10) ∧ ∀ c, 0 ≤ c → c < T.1 → (0 ≤ T.2.1 c ∧ T.2.1 c ≤ 3) ∧ (0 ≤ T.2.2.1 c ∧ T.2.2.1 c ≤ 99) ∧ 0 ≤ frF T.2.2.2.1 c ∧ T.2.2.2.1 c ≤ 100 ∧ (T.2.1 c ≤ 1 → segOk T.2.2.2.2 (frF T.2.2.2.1 c) (T.2.2.2.1 c))
/-- town t of the class is T -/
def CTn (μ : aM) (t : Int) (T : TDt) : Prop := T = (μ 14 t 0, μ 15 t, μ 16 t, μ 17 t, μ 18 t) ∧ TDok T ∧ μ 14 t 2 = fastT T ∧ μ 14 t 3 = loudT T
/-- town t of the reference is T -/
def MTn (μ : aM) (t : Int) (T : TDt) : Prop := μ 38 0 t = T.1 ∧ (∀ c, 0 ≤ c → c < T.1 → μ 39 0 (10 * t + c) = T.2.1 c ∧ μ 40 0 (10 * t + c) = T.2.2.1 c ∧ (T.2.1 c ≤ 1 → μ 41 0 (10 * t + c) = 100 * t + frF T.2.2.2.1 c ∧ μ 42 0 (10 * t + c) = 100 * t + T.2.2.2.1 c ∧ ∀ i, frF T.2.2.2.1 c ≤ i → i < T.2.2.2.1 c → μ 43 0 (100 * t + i) = mtok (T.2.2.2.2 i)))
/-- the reference's town that holds is T -/
def MHn (μ : aM) (T : TDt) : Prop := (μ 31 0 9 = -1 ∧ T.1 = 0) ∨ ((0 ≤ μ 31 0 9 ∧ μ 31 0 9 ≤ 5) ∧ MTn μ (μ 31 0 9) T)
theorem cTerm_rng {T : TDt} (hT : TDok T) {fact : Int → Int} {c : Int} (h0 : 0 ≤ c) (h1 : c < T.1) : -99 ≤ cTerm T fact c ∧ cTerm T fact c ≤ 99 := by
  obtain ⟨-, h2, -⟩ := hT.2 c h0 h1
  unfold cTerm
  repeat' split
  all_goals omega
theorem lag_rng {T : TDt} (hT : TDok T) {fact : Int → Int} : ∀ c, 0 ≤ c → c ≤ T.1 → -(99 * c) ≤ fI (fun s c => s + cTerm T fact c) 0 c ∧ fI (fun s c => s + cTerm T fact c) 0 c ≤ 99 * c := by
  intro c h0 hc
  obtain ⟨k, rfl⟩ : ∃ k : Nat, c = (k : Int) := ⟨c.toNat, by omega⟩
  induction k with
  | zero => show -(99 * ((0 : Nat) : Int)) ≤ (0 : Int) ∧ (0 : Int) ≤ 99 * ((0 : Nat) : Int); omega
  | succ k ih =>
    have := ih (by omega) (by omega)
    have h9 := cTerm_rng hT (fact := fact) (c := (k : Int)) (by omega) (by omega)
    rw [show ((k + 1 : Nat) : Int) = (k : Int) + 1 by omega, fI_s (by omega)]
    omega
theorem lagT_rng {T : TDt} (hT : TDok T) {fact : Int → Int} : -990 ≤ lagT T fact ∧ lagT T fact ≤ 990 := by
  have h1 := hT.1
  have := lag_rng hT (fact := fact) T.1 (by omega) (by omega)
  unfold lagT; omega
section
variable {g : aG} {d : Nat} {μ : aM} {Q : aQ} {p B t a : Int} {T : TDt}
theorem c_To_lagOf (hT : CTn μ t T) (hV : VOk B (vC μ a)) (hB : B ≤ 1000000) (hp : 0 ≤ p ∧ p < 6) (h : Q (some (aI (lagT T (factF p (μ 3 a p) (μ 4 a p) (μ 5 a p) (μ 6 a p) (μ 2 a 1))))) μ) : Cal g (d + 3) m_To_lagOf [aR 14 t, aR 2 a, aI p] μ Q := by
  obtain ⟨rfl, hok, -, -⟩ := hT
  generalize hf : factF p (μ 3 a p) (μ 4 a p) (μ 5 a p) (μ 6 a p) (μ 2 a 1) = F at h
  have hn : 0 ≤ μ 14 t 0 ∧ μ 14 t 0 ≤ 10 := hok.1
  refine T_To_lagOf (k1 := loopR (n := μ 14 t 0) (fun c (x : Int × Int) => Rn g (d + 2) m_To_lagOf 8 [some (aR 14 t), some (aR 2 a), some (aI p), some (aI x.1), some (aI x.2), some (aI c)] [] μ Q) (fun c x => x.1 = fI (fun s c => s + cTerm (μ 14 t 0, μ 15 t, μ 16 t, μ 17 t, μ 18 t) F c) 0 c ∧ x.2 = frF (μ 17 t) c) ?_ ?_ 0 (0, 0) (by omega) hn.1 ⟨rfl, rfl⟩)
  · rintro c ⟨x, y⟩ h0 hc ⟨hx, hy⟩ ih
    dsimp only at hx hy ih ⊢
    obtain ⟨c1, c2, c3, c4, c5⟩ := hok.2 c h0 hc
    dsimp only at c1 c2 c3 c4 c5
    have hr := lag_rng hok (fact := F) c h0 (Int.le_of_lt hc)
    rw [← hx] at hr
    have hfr : frF (μ 17 t) (c + 1) = μ 17 t c := by unfold frF; rw [if_neg (by omega), show c + 1 - 1 = c by omega]
    have nxt : ∀ v, v = cTerm (μ 14 t 0, μ 15 t, μ 16 t, μ 17 t, μ 18 t) F c → Rn g (d + 2) m_To_lagOf 8 [some (aR 14 t), some (aR 2 a), some (aI p), some (aI (x + v)), some (aI (μ 17 t c)), some (aI (c + 1))] [] μ Q := fun v hv => ih (x + v, μ 17 t c) ⟨by rw [fI_s h0, hx, hv], hfr.symm⟩
    have hold : ∀ (hw : μ 15 t c ≤ 1) {Q' : aQ}, Q' (some (aI (b2 (holdF F (μ 18 t) (frF (μ 17 t) c) (μ 17 t c))))) μ → Cal g (d + 2) m_To_holds [aR 14 t, aI y, aI (μ 17 t c), aR 2 a, aI p] μ Q' := fun hw Q' hQ => by
      rw [hy]
      exact c_To_holds hV hB hp (c5 hw) c3 c4 (by rw [hf]; exact hQ)
    refine B_To_lagOf_8 (k1 := fun z => absurd z (by omega)) (k2 := fun _ z1 z2 => ?_) (k3 := fun _ z1 z2 => ?_) (k4 := fun _ z1 => ?_)
    · have := nxt 0 (by unfold cTerm; dsimp only; rw [if_neg z1, if_neg z2])
      rw [Int.add_zero] at this
      exact this
    · refine hold (by omega) (B_To_lagOf_81 (k1 := fun z => ?_) (k2 := fun z => ?_))
      · have := nxt 0 (by unfold cTerm; dsimp only; rw [if_neg z1, if_pos z2, b2_eq z]; rfl)
        rw [Int.add_zero] at this
        exact this
      · have := nxt (-(μ 16 t c)) (by unfold cTerm; dsimp only; rw [if_neg z1, if_pos z2, b2_ne z]; rfl)
        rw [← Int.sub_eq_add_neg] at this
        exact this
    · refine hold (by omega) (B_To_lagOf_42 (k1 := fun z _ => ?_) (k2 := fun _ z2 => absurd z2 (by omega)) (k3 := fun z _ => ?_) (k4 := fun _ z2 => absurd z2 (by omega)))
      · have := nxt 0 (by unfold cTerm; dsimp only; rw [if_pos z1, b2_eq z]; rfl)
        rw [Int.add_zero] at this
        exact this
      · exact nxt (μ 16 t c) (by unfold cTerm; dsimp only; rw [if_pos z1, b2_ne z]; rfl)
  · rintro ⟨x, y⟩ ⟨hx, hy⟩
    dsimp only at hx hy ⊢
    refine B_To_lagOf_8 (k1 := fun _ => ?_) (k2 := fun z => absurd z (by omega)) (k3 := fun z => absurd z (by omega)) (k4 := fun z => absurd z (by omega))
    rw [hx]; exact h
def S46 (μ μ' : aM) : Prop := ∀ k, k ≠ 46 → μ' k = μ k
theorem S46.rf : S46 μ μ := fun _ _ => rfl
theorem S46.tr {μ₁ μ₂ : aM} (h : S46 μ μ₁) (h2 : S46 μ₁ μ₂) : S46 μ μ₂ := fun k hk => (h2 k hk).trans (h k hk)
theorem S46.vM {μ' : aM} (h : S46 μ μ') : vM μ' = vM μ := vM_cong (h 31 (by decide)) (fun k h1 h2 => h k (by omega))
theorem MTn.moved {μ' : aM} (h38 : μ' 38 = μ 38) (h39 : μ' 39 = μ 39) (h40 : μ' 40 = μ 40) (h41 : μ' 41 = μ 41) (h42 : μ' 42 = μ 42) (h43 : μ' 43 = μ 43) (h : MTn μ t T) : MTn μ' t T := by
  unfold MTn at h ⊢; rw [h38, h39, h40, h41, h42, h43]; exact h
theorem MHn.s46 {μ' : aM} (hs : S46 μ μ') (h : MHn μ T) : MHn μ' T := by
  unfold MHn at h ⊢
  rw [hs 31 (by decide)]
  rcases h with h | ⟨h, h2⟩
  · exact Or.inl h
  · exact Or.inr ⟨h, h2.moved (hs 38 (by decide)) (hs 39 (by decide)) (hs 40 (by decide)) (hs 41 (by decide)) (hs 42 (by decide)) (hs 43 (by decide))⟩
def lagM (T : TDt) (pp : Int) (μ : aM) (p : Int) : Int := if p = pp then 0 else lagT T (factF p (μ 32 0 p) (μ 33 0 p) (μ 34 0 p) (μ 35 0 p) (μ 31 0 1))
theorem c_M_lag (hT : MHn μ T) (hok : TDok T) (hV : VOk B (vM μ)) (hB : B ≤ 1000000) (hp : 0 ≤ p ∧ p < 6) (h : ∀ μ', S46 μ μ' → Q (some (aI (lagM T (μ 31 0 25) μ p))) μ') : Cal g (d + 4) m_M_lag [aR 31 0, aI p] μ Q := by
  have hn : 0 ≤ T.1 ∧ T.1 ≤ 10 := hok.1
  rcases hT with ⟨h1, h2⟩ | ⟨h1, h2, h3⟩
  · refine T_M_lag (k1 := B_M_lag_7 (k1 := fun _ => ?_) (k2 := fun z => ?_) (k3 := fun z => ?_) (k4 := fun z => ?_) (b3 := fun z => ?_) (b4 := fun z => ?_))
    · have := h μ S46.rf
      unfold lagM lagT at this
      rw [h2, show fI (fun s c => s + cTerm T (factF p (μ 32 0 p) (μ 33 0 p) (μ 34 0 p) (μ 35 0 p) (μ 31 0 1)) c) 0 0 = 0 from rfl, ite_self] at this
      exact this
    all_goals
      rw [if_pos (by omega), if_pos (by omega)] at z
      exact absurd z (by omega)
  · generalize hth : μ 31 0 9 = th at *
    have eb : (if μ 31 0 9 < 0 then (0 : Int) else 10 * μ 31 0 9) = 10 * th := by rw [if_neg (by omega), hth]
    have ee : (if μ 31 0 9 < 0 then (0 : Int) else 10 * μ 31 0 9 + μ 38 0 (μ 31 0 9)) = 10 * th + T.1 := by rw [if_neg (by omega), hth, h2]
    refine T_M_lag (k1 := ?_) (b1 := by omega)
    rw [eb]
    by_cases hpp : p = μ 31 0 25
    · have hz := h μ S46.rf
      unfold lagM at hz
      rw [if_pos hpp] at hz
      exact B_M_lag_7 (k1 := fun _ => hz) (k2 := fun _ _ => hz) (k3 := fun _ z => absurd hpp z) (k4 := fun _ z => absurd hpp z) (b1 := by omega) (b2 := by rw [hth, h2]; omega) (b3 := fun _ z => absurd hpp z) (b4 := fun _ z => absurd hpp z)
    · generalize hf : factF p (μ 32 0 p) (μ 33 0 p) (μ 34 0 p) (μ 35 0 p) (μ 31 0 1) = F at *
      have hL : lagM T (μ 31 0 25) μ p = fI (fun s c => s + cTerm T F c) 0 T.1 := by unfold lagM lagT; rw [if_neg hpp, hf]
      rw [hL] at h
      refine loopR (n := 10 * th + T.1) (fun c (x : Int × aM) => Rn g (d + 3) m_M_lag 7 [some (aR 31 0), some (aI p), some (aI x.1), some (aI c)] [] x.2 Q) (fun c x => 10 * th ≤ c ∧ S46 μ x.2 ∧ x.1 = fI (fun s c => s + cTerm T F c) 0 (c - 10 * th)) ?_ ?_ (10 * th) (0, μ) (by omega) (by omega) ⟨Int.le_refl _, S46.rf, by rw [Int.sub_self]; rfl⟩
      · rintro c ⟨x, m⟩ h0 hc ⟨hc0, hs, hx⟩ ih
        dsimp only at hs hx ih ⊢
        obtain ⟨c1, c2, c3, c4, c5⟩ := hok.2 (c - 10 * th) (by omega) (by omega)
        obtain ⟨m1, m2, m3⟩ := h3 (c - 10 * th) (by omega) (by omega)
        rw [show 10 * th + (c - 10 * th) = c by omega] at m1 m2 m3
        have hr := lag_rng hok (fact := F) (c - 10 * th) (by omega) (by omega)
        rw [← hx] at hr
        have e9 : m 31 0 9 = th := by rw [hs 31 (by decide)]; exact hth
        have e38 : m 38 0 th = T.1 := by rw [hs 38 (by decide)]; exact h2
        have e25 : m 31 0 25 = μ 31 0 25 := by rw [hs 31 (by decide)]
        have e39 : m 39 0 c = T.2.1 (c - 10 * th) := by rw [hs 39 (by decide)]; exact m1
        have e40 : m 40 0 c = T.2.2.1 (c - 10 * th) := by rw [hs 40 (by decide)]; exact m2
        have ee' : (if m 31 0 9 < 0 then (0 : Int) else 10 * m 31 0 9 + m 38 0 (m 31 0 9)) = 10 * th + T.1 := by rw [if_neg (by omega), e9, e38]
        have nxt : ∀ v m', S46 μ m' → v = cTerm T F (c - 10 * th) → Rn g (d + 3) m_M_lag 7 [some (aR 31 0), some (aI p), some (aI (x + v)), some (aI (c + 1))] [] m' Q := fun v m' hm' hv => ih (x + v, m') ⟨by omega, hm', by rw [show c + 1 - 10 * th = (c - 10 * th) + 1 by omega, fI_s (by omega), hx, hv]⟩
        refine B_M_lag_7 (b1 := by omega) (b2 := by rw [e9, e38]; omega) (k1 := fun z => absurd z (by omega)) (k2 := fun _ z => absurd z (by omega)) (k3 := fun _ _ z => ?_) (k4 := fun _ _ z => ?_)
        · have := nxt 0 m hs (by unfold cTerm; rw [if_neg (by omega), if_neg (by omega)])
          rw [Int.add_zero] at this
          exact this
        · rw [e39] at z
          obtain ⟨n1, n2, n3⟩ := m3 z
          have hV' : VOk B (vM m) := by rw [hs.vM]; exact hV
          refine c_M_holds (code := T.2.2.2.2) (fr := frF T.2.2.2.1 (c - 10 * th)) (to := T.2.2.2.1 (c - 10 * th)) hV' hB hp ⟨by omega, by omega⟩ (c5 z) (by rw [hs 41 (by decide), n1]; omega) (by rw [hs 41 (by decide), hs 42 (by decide), n1, n2]; omega) (by rw [hs 42 (by decide), n2]; omega) (fun i i0 i1 => ?_) (fun m' hm' => ?_)
          · rw [hs 41 (by decide), hs 43 (by decide), n1, show 100 * th + frF T.2.2.2.1 (c - 10 * th) + i = 100 * th + (frF T.2.2.2.1 (c - 10 * th) + i) by omega]
            exact n3 _ (by omega) (by omega)
          · have hsm : S46 μ m' := hs.tr hm'
            have f39 : m' 39 0 c = T.2.1 (c - 10 * th) := by rw [hsm 39 (by decide)]; exact m1
            have f40 : m' 40 0 c = T.2.2.1 (c - 10 * th) := by rw [hsm 40 (by decide)]; exact m2
            have hf' : factF p (m 32 0 p) (m 33 0 p) (m 34 0 p) (m 35 0 p) (m 31 0 1) = F := by rw [hs 31 (by decide), hs 32 (by decide), hs 33 (by decide), hs 34 (by decide), hs 35 (by decide)]; exact hf
            rw [hf']
            refine B_M_lag_39 (k1 := fun z1 z2 => ?_) (k2 := fun z1 z2 => ?_) (k3 := fun z1 => ?_)
            · have := nxt (-(m' 40 0 c)) m' hsm (by rw [f40]; rw [f39] at z2; unfold cTerm; rw [if_neg z2, if_pos (by omega), b2_ne z1]; rfl)
              exact this
            · exact nxt (m' 40 0 c) m' hsm (by rw [f40]; rw [f39] at z2; unfold cTerm; rw [if_pos z2, b2_ne z1]; rfl)
            · have := nxt 0 m' hsm (by unfold cTerm; rw [b2_eq z1]; simp)
              rw [Int.add_zero] at this
              exact this
      · rintro ⟨x, m⟩ ⟨hc0, hs, hx⟩
        dsimp only at hs hx ⊢
        have e9 : m 31 0 9 = th := by rw [hs 31 (by decide)]; exact hth
        have e38 : m 38 0 th = T.1 := by rw [hs 38 (by decide)]; exact h2
        have ee' : (if m 31 0 9 < 0 then (0 : Int) else 10 * m 31 0 9 + m 38 0 (m 31 0 9)) = 10 * th + T.1 := by rw [if_neg (by omega), e9, e38]
        have h := h m hs
        rw [show 10 * th + T.1 - 10 * th = T.1 by omega] at hx
        rw [← hx] at h
        refine B_M_lag_7 (b1 := by omega) (b2 := by rw [e9, e38]; omega) (k1 := fun _ => h) (k2 := fun _ _ => h) (k3 := fun z => absurd z (by omega)) (k4 := fun z => absurd z (by omega))
end
