/-! When an E holds, in the reference. -/
def mtok (tk : Int) : Int := if tk = -1 then -33 else if tk = -2 then -38 else if tk = -3 then -124 else 1000 * (tk / 512) + 100 * (tk / 128 % 4) + tk % 128
def pileIs (row : Int → Int) : List Bool → Prop
  | [] => True
  | b :: l => row (l.length : Int) = b2 b ∧ pileIs row l
theorem pile_up {row : Int → Int} {i x : Int} : ∀ {l : List Bool}, pileIs row l → (l.length : Int) ≤ i → pileIs (pu row i x) l
  | [], _, _ => trivial
  | b :: l, h, hi => by
    have hi' : (l.length : Int) + 1 ≤ i := by simpa using hi
    refine ⟨?_, pile_up h.2 (by omega)⟩
    unfold pu
    rw [if_neg (by omega)]; exact h.1
theorem up_row {μ : aM} {k : Nat} {i j x : Int} : up μ k i j x k i = pu (μ k i) j x := by
  funext t; unfold up pu; simp
theorem up_k {μ : aM} {k k' : Nat} {i j x : Int} (h : k' ≠ k) : up μ k i j x k' = μ k' := by
  funext a b; unfold up; rw [if_neg (fun z => h z.1)]
theorem vM_cong {μ μ' : aM} (h31 : μ' 31 = μ 31) (h : ∀ k, 32 ≤ k → k ≤ 36 → μ' k = μ k) : vM μ' = vM μ := by
  unfold vM; rw [h31, h 32 (by omega) (by omega), h 33 (by omega) (by omega), h 34 (by omega) (by omega), h 35 (by omega) (by omega), h 36 (by omega) (by omega)]
theorem tstB_2 {s is num : Int} (h0 : s ≠ 0) (h1 : s ≠ 1) : tstB s is num = decide (num < is) := by unfold tstB; rw [if_neg h0, if_neg h1]
theorem tstB_1 {s is num : Int} (h1 : s = 1) : tstB s is num = decide (is = num) := by unfold tstB; rw [if_neg (by omega), if_pos h1]
theorem tstB_0 {s is num : Int} (h0 : s = 0) : tstB s is num = decide (is < num) := by unfold tstB; rw [if_pos h0]
theorem b2_ne {b : Bool} (h : b2 b ≠ 0) : b = true := by cases b; exact absurd rfl h; rfl
theorem b2_eq {b : Bool} (h : b2 b = 0) : b = false := by cases b; rfl; exact absurd h (by decide)
section
variable {g : aG} {d : Nat} {μ : aM} {Q : aQ} {p B fr to c : Int} {code : Int → Int}
theorem vokM_p (h : VOk B (vM μ)) (h0 : 0 ≤ p) (h6 : p < 6) : (0 ≤ μ 32 0 p ∧ μ 32 0 p ≤ 6) ∧ (0 ≤ μ 33 0 p ∧ μ 33 0 p ≤ 9) ∧ (0 ≤ μ 34 0 p ∧ μ 34 0 p ≤ 99) ∧ (-999 ≤ μ 35 0 p ∧ μ 35 0 p ≤ 999) ∧ (0 ≤ μ 31 0 1 ∧ μ 31 0 1 ≤ B) := by
  have := h.2.2 p h0 h6
  unfold vk vv vu vo va vM at this
  dsimp only at this
  rw [t6_in h0 h6, t6_in h0 h6, t6_in h0 h6, t6_in h0 h6] at this
  exact ⟨this.1, this.2.1, this.2.2.1, this.2.2.2.1, h.2.1⟩
theorem c_M_holds (hV : VOk B (vM μ)) (hB : B ≤ 1000000) (hp : 0 ≤ p ∧ p < 6) (hc : 0 ≤ c ∧ c < 60) (hs : segOk code fr to) (hf : 0 ≤ μ 41 0 c) (ht : μ 42 0 c = μ 41 0 c + (to - fr)) (ht2 : μ 42 0 c ≤ 600)
    (hsg : ∀ i, 0 ≤ i → i < to - fr → μ 43 0 (μ 41 0 c + i) = mtok (code (fr + i)))
    (h : ∀ μ' : aM, (∀ k, k ≠ 46 → μ' k = μ k) → Q (some (aI (b2 (holdF (factF p (μ 32 0 p) (μ 33 0 p) (μ 34 0 p) (μ 35 0 p) (μ 31 0 1)) code fr to)))) μ') : Cal g (d + 3) m_M_holds [aR 31 0, aI c, aI p] μ Q := by
  generalize hF : factF p (μ 32 0 p) (μ 33 0 p) (μ 34 0 p) (μ 35 0 p) (μ 31 0 1) = F at h
  have hft := hs.1
  refine T_M_holds (k1 := loopR (n := μ 42 0 c) (fun k (a : Int × aM) => Rn g (d + 2) m_M_holds 10 [some (aR 31 0), some (aI c), some (aI p), some (aI a.1), some (aI k), none, none, none] [] a.2 Q) (fun k a => μ 41 0 c ≤ k ∧ (∀ k', k' ≠ 46 → a.2 k' = μ k') ∧ a.1 = ((evL F code fr (k - μ 41 0 c)).length : Int) ∧ pileIs (a.2 46 0) (evL F code fr (k - μ 41 0 c))) ?_ ?_ (μ 41 0 c) (0, μ) hf (by omega) ⟨Int.le_refl _, fun _ _ => rfl, by rw [Int.sub_self]; rfl, by rw [Int.sub_self]; trivial⟩)
  · rintro k ⟨x, m⟩ h0 hk ⟨hk0, he, hx, hpl⟩ ih
    dsimp only at he hx hpl ih ⊢
    obtain ⟨l1, l2⟩ := ev_len (fact := F) hs (k - μ 41 0 c) (by omega) (by omega)
    have hok := hs.2.1 (k - μ 41 0 c) (by omega) (by omega)
    have htk := hsg (k - μ 41 0 c) (by omega) (by omega)
    rw [show μ 41 0 c + (k - μ 41 0 c) = k by omega] at htk
    rw [← l1] at hok l2
    have hE : evL F code fr (k + 1 - μ 41 0 c) = evS F (evL F code fr (k - μ 41 0 c)) (code (fr + (k - μ 41 0 c))) := by
      unfold evL
      rw [show k + 1 - μ 41 0 c = (k - μ 41 0 c) + 1 by omega, fI_s (by omega)]
    rw [hE] at ih
    generalize evL F code fr (k - μ 41 0 c) = st at *
    generalize code (fr + (k - μ 41 0 c)) = tk at *
    have e43 : m 43 0 k = mtok tk := by rw [he 43 (by decide), htk]
    have e42 : m 42 0 c = μ 42 0 c := by rw [he 42 (by decide)]
    have hF' : factF p (m 32 0 p) (m 33 0 p) (m 34 0 p) (m 35 0 p) (m 31 0 1) = F := by rw [he 31 (by decide), he 32 (by decide), he 33 (by decide), he 34 (by decide), he 35 (by decide)]; exact hF
    obtain ⟨q1, q2, q3, q4, q5⟩ := vokM_p hV hp.1 hp.2
    have q3' : 0 ≤ m 34 0 p ∧ m 34 0 p ≤ 99 := by rw [he 34 (by decide)]; exact q3
    have q4' : -999 ≤ m 35 0 p ∧ m 35 0 p ≤ 999 := by rw [he 35 (by decide)]; exact q4
    have q5' : 0 ≤ m 31 0 1 ∧ m 31 0 1 ≤ 1000000 := by rw [he 31 (by decide)]; omega
    have hfr : ∀ i v, ∀ k', k' ≠ 46 → up m 46 0 i v k' = μ k' := fun i v k' hk' => by rw [up_k hk', he k' hk']
    have htest : mtok tk ≠ -33 → 0 ≤ mtok tk → (tk ≠ -1 ∧ tk ≠ -2 ∧ tk ≠ -3) ∧ (0 ≤ tk ∧ tk < 3072) ∧ tk / 128 % 4 ≤ 2 ∧ tk % 128 ≤ 99 ∧ i_div (mtok tk) 1000 = tk / 512 ∧ i_rem (i_div (mtok tk) 100) 10 = tk / 128 % 4 ∧ i_rem (mtok tk) 100 = tk % 128 := fun z1 z2 => by
      unfold mtok at z1 z2
      rcases hok with ⟨rfl, -⟩ | ⟨rfl | rfl, -⟩ | ⟨y1, y2, y3, y4⟩
      · rw [if_pos rfl] at z1; exact absurd rfl z1
      · exact absurd z2 (by decide)
      · exact absurd z2 (by decide)
      · have hm : mtok tk = 1000 * (tk / 512) + 100 * (tk / 128 % 4) + tk % 128 := by
          unfold mtok; rw [if_neg (by omega), if_neg (by omega), if_neg (by omega)]
        refine ⟨by omega, y1, y2, y3, ?_⟩
        rw [hm]
        have a1 : i_div (1000 * (tk / 512) + 100 * (tk / 128 % 4) + tk % 128) 1000 = (1000 * (tk / 512) + 100 * (tk / 128 % 4) + tk % 128) / 1000 := i_div_nn (by omega) (by omega) (by omega)
        have a2 : i_div (1000 * (tk / 512) + 100 * (tk / 128 % 4) + tk % 128) 100 = (1000 * (tk / 512) + 100 * (tk / 128 % 4) + tk % 128) / 100 := i_div_nn (by omega) (by omega) (by omega)
        have a3 : i_rem (1000 * (tk / 512) + 100 * (tk / 128 % 4) + tk % 128) 100 = (1000 * (tk / 512) + 100 * (tk / 128 % 4) + tk % 128) % 100 := i_rem_nn (by omega) (by omega) (by omega)
        rw [a1, a2, a3, i_rem_nn (by omega) (by omega) (by omega)]
        omega
    have hpush : ∀ v, mtok tk ≠ -33 → 0 ≤ mtok tk → (∀ s, s = i_rem (i_div (mtok tk) 100) 10 → 0 ≤ s ∧ s ≤ 2 → v = b2 (tstB s (F (i_div (mtok tk) 1000)) (i_rem (mtok tk) 100))) → μ 41 0 c ≤ k + 1 ∧ (∀ k', k' ≠ 46 → up m 46 0 x v k' = μ k') ∧ x + 1 = ((evS F st tk).length : Int) ∧ pileIs (up m 46 0 x v 46 0) (evS F st tk) := fun v z1 z2 hv => by
      obtain ⟨⟨w1, w2, w3⟩, w4, w5, w6, w7, w8, w9⟩ := htest z1 z2
      have hv := hv _ rfl (by rw [w8]; omega)
      rw [w7, w8, w9] at hv
      rw [evS_t w1 w2 w3]
      refine ⟨by omega, hfr _ _, by simp; omega, ?_⟩
      rw [up_row]
      refine ⟨?_, pile_up hpl (by omega)⟩
      unfold pu; rw [if_pos (by omega), hv]
    have hnot : ∀ v, mtok tk = -33 → (∀ b l, st = b :: l → v = b2 (!b)) → μ 41 0 c ≤ k + 1 ∧ (∀ k', k' ≠ 46 → up m 46 0 (x - 1) v k' = μ k') ∧ x = ((evS F st tk).length : Int) ∧ pileIs (up m 46 0 (x - 1) v 46 0) (evS F st tk) := fun v z hv => by
      have htk1 : tk = -1 := by
        unfold mtok at z
        rcases hok with ⟨h9, -⟩ | ⟨rfl | rfl, -⟩ | ⟨y1, y2, y3, y4⟩
        · exact h9
        · exact absurd z (by decide)
        · exact absurd z (by decide)
        · rw [if_neg (by omega), if_neg (by omega), if_neg (by omega)] at z; omega
      have hl : 1 ≤ st.length := by rw [htk1] at hok; rcases hok with ⟨-, h⟩ | ⟨h, -⟩ | ⟨h, -⟩ <;> omega
      match st, hl, hpl, hx, hv with
      | b :: l, _, hpl, hx, hv =>
        have hx' : x = (l.length : Int) + 1 := by simpa using hx
        rw [htk1, show evS F (b :: l) (-1) = (!b) :: l from rfl, up_row]
        refine ⟨by omega, hfr _ _, by simpa using hx', ?_, pile_up hpl.2 (by omega)⟩
        unfold pu; rw [if_pos (by omega)]; exact hv b l rfl
    have hbin : ∀ v, mtok tk < 0 → mtok tk ≠ -33 → (∀ b e l, st = b :: e :: l → v = b2 (if mtok tk = -38 then e && b else e || b)) → μ 41 0 c ≤ k + 1 ∧ (∀ k', k' ≠ 46 → up m 46 0 ((x + (-1)) - 1) v k' = μ k') ∧ x + (-1) = ((evS F st tk).length : Int) ∧ pileIs (up m 46 0 ((x + (-1)) - 1) v 46 0) (evS F st tk) := fun v z1 z2 hv => by
      have htk1 : (tk = -2 ∧ mtok tk = -38) ∨ (tk = -3 ∧ mtok tk = -124) := by
        rcases hok with ⟨h9, -⟩ | ⟨h9 | h9, -⟩ | ⟨y1, y2, y3, y4⟩
        · rw [h9] at z2; exact absurd rfl z2
        · exact Or.inl ⟨h9, by rw [h9]; rfl⟩
        · exact Or.inr ⟨h9, by rw [h9]; rfl⟩
        · have hm : mtok tk = 1000 * (tk / 512) + 100 * (tk / 128 % 4) + tk % 128 := by
            unfold mtok; rw [if_neg (by omega), if_neg (by omega), if_neg (by omega)]
          omega
      have hl : 2 ≤ st.length := by rcases hok with ⟨h, -⟩ | ⟨-, h⟩ | ⟨h, -⟩ <;> omega
      match st, hl, hpl, hx, hv with
      | b :: e :: l, _, hpl, hx, hv =>
        have hx' : x = (l.length : Int) + 2 := by simp at hx; omega
        have hv := hv b e l rfl
        rcases htk1 with ⟨y1, y2⟩ | ⟨y1, y2⟩
        · rw [y2, if_pos rfl] at hv
          rw [y1, show evS F (b :: e :: l) (-2) = (e && b) :: l from rfl, up_row]
          refine ⟨by omega, hfr _ _, by simp; omega, ?_, pile_up hpl.2.2 (by omega)⟩
          unfold pu; rw [if_pos (by omega)]; exact hv
        · rw [y2, if_neg (by decide)] at hv
          rw [y1, show evS F (b :: e :: l) (-3) = (e || b) :: l from rfl, up_row]
          refine ⟨by omega, hfr _ _, by simp; omega, ?_, pile_up hpl.2.2 (by omega)⟩
          unfold pu; rw [if_pos (by omega)]; exact hv
      | [b], h, _, _, _ => simp at h
      | [], h, _, _, _ => simp at h
    have hlen : mtok tk < 0 → 1 ≤ x := fun z => by
      rcases hok with ⟨-, h⟩ | ⟨-, h⟩ | ⟨y1, y2, y3, y4⟩
      · omega
      · omega
      · have hm : mtok tk = 1000 * (tk / 512) + 100 * (tk / 128 % 4) + tk % 128 := by
          unfold mtok; rw [if_neg (by omega), if_neg (by omega), if_neg (by omega)]
        omega
    have hlen2 : mtok tk < 0 → mtok tk ≠ -33 → 2 ≤ x := fun z z2 => by
      rcases hok with ⟨h9, -⟩ | ⟨-, h⟩ | ⟨y1, y2, y3, y4⟩
      · rw [h9] at z2; exact absurd rfl z2
      · omega
      · have hm : mtok tk = 1000 * (tk / 512) + 100 * (tk / 128 % 4) + tk % 128 := by
          unfold mtok; rw [if_neg (by omega), if_neg (by omega), if_neg (by omega)]
        omega
    have hx50 : 0 ≤ mtok tk → mtok tk ≠ -33 → x ≤ 50 := fun z z2 => by
      obtain ⟨⟨w1, w2, w3⟩, -⟩ := htest z2 z
      rcases hok with ⟨h9, -⟩ | ⟨h9, h⟩ | ⟨y1, y2, y3, y4⟩ <;> omega
    have hst2 : ∀ b e l, st = b :: e :: l → m 46 0 ((x + (-1)) - 1) = b2 e ∧ m 46 0 (x + (-1)) = b2 b := fun b e l hst => by
      subst hst
      have hx' : x = (l.length : Int) + 2 := by simp at hx; omega
      refine ⟨?_, ?_⟩
      · rw [show (x + (-1)) - 1 = (l.length : Int) by omega]; exact hpl.2.1
      · rw [show x + (-1) = ((e :: l).length : Int) by simp; omega]; exact hpl.1
    have hst1 : ∀ b l, st = b :: l → m 46 0 (x - 1) = b2 b := fun b l hst => by
      subst hst
      have hx' : x = (l.length : Int) + 1 := by simp at hx; omega
      rw [show x - 1 = (l.length : Int) by omega]; exact hpl.1
    have hx51 : x ≤ 51 := by omega
    have hm600 : μ 42 0 c ≤ 600 := ht2
    rw [← e43] at htest hpush hnot hbin hlen hlen2 hx50
    clear e43
    refine B_M_holds_10 (k1 := fun z => absurd z (by omega)) (b2 := fun z => absurd z (by omega)) (b3 := fun z => absurd z (by omega))
      (k2 := fun _ z1 z2 y1 y2 y3 => ?_) (k3 := fun _ z1 z2 y1 y2 y3 => ?_) (k4 := fun _ z1 z2 y1 y2 y3 => ?_) (k5 := fun _ z1 z2 y1 y2 y3 => ?_) (k6 := fun _ z1 z2 y1 y2 => ?_) (k7 := fun _ z1 z2 y1 y2 => ?_)
      (k8 := fun _ z1 z2 y1 y2 => ?_) (k9 := fun _ z1 z2 y1 y2 y3 => ?_) (k10 := fun _ z1 z2 y1 y2 y3 => ?_) (k11 := fun _ z1 z2 y1 y2 => ?_) (k12 := fun _ z1 z2 y1 y2 y3 => ?_) (k13 := fun _ z1 z2 y1 y2 y3 => ?_) (k14 := fun _ z1 y2 => ?_) (k15 := fun _ z1 y2 => ?_)
    · rw [hF'] at y3; exact ih (x + 1, up m 46 0 x 0) (hpush 0 z1 z2 (fun s hs1 hs2 => by rw [tstB_2 (hs1 ▸ y1) (hs1 ▸ y2), decide_eq_false (by omega)]; rfl))
    · rw [hF'] at y3; exact ih (x + 1, up m 46 0 x 1) (hpush 1 z1 z2 (fun s hs1 hs2 => by rw [tstB_2 (hs1 ▸ y1) (hs1 ▸ y2), decide_eq_true (by omega)]; rfl))
    · rw [hF'] at y3; exact ih (x + 1, up m 46 0 x 0) (hpush 0 z1 z2 (fun s hs1 hs2 => by rw [tstB_1 (hs1 ▸ y2), decide_eq_false y3]; rfl))
    · rw [hF'] at y3; exact ih (x + 1, up m 46 0 x 1) (hpush 1 z1 z2 (fun s hs1 hs2 => by rw [tstB_1 (hs1 ▸ y2), decide_eq_true y3]; rfl))
    · rw [hF'] at y2; exact ih (x + 1, up m 46 0 x 0) (hpush 0 z1 z2 (fun s hs1 hs2 => by rw [tstB_0 (hs1 ▸ y1), decide_eq_false (by omega)]; rfl))
    · rw [hF'] at y2; exact ih (x + 1, up m 46 0 x 1) (hpush 1 z1 z2 (fun s hs1 hs2 => by rw [tstB_0 (hs1 ▸ y1), decide_eq_true y2]; rfl))
    · exact ih (x + (-1), up m 46 0 ((x + (-1)) - 1) 1) (hbin 1 z2 z1 (fun b e l hst => by obtain ⟨h1, h2⟩ := hst2 b e l hst; rw [h1] at y2; rw [if_neg y1, b2_ne y2]; cases b <;> rfl))
    · exact ih (x + (-1), up m 46 0 ((x + (-1)) - 1) 0) (hbin 0 z2 z1 (fun b e l hst => by obtain ⟨h1, h2⟩ := hst2 b e l hst; rw [h1] at y2; rw [h2] at y3; rw [if_neg y1, b2_eq y2, b2_eq y3]; rfl))
    · exact ih (x + (-1), up m 46 0 ((x + (-1)) - 1) 1) (hbin 1 z2 z1 (fun b e l hst => by obtain ⟨h1, h2⟩ := hst2 b e l hst; rw [h1] at y2; rw [h2] at y3; rw [if_neg y1, b2_eq y2, b2_ne y3]; rfl))
    · exact ih (x + (-1), up m 46 0 ((x + (-1)) - 1) 0) (hbin 0 z2 z1 (fun b e l hst => by obtain ⟨h1, h2⟩ := hst2 b e l hst; rw [h1] at y2; rw [if_pos y1, b2_eq y2]; cases b <;> rfl))
    · exact ih (x + (-1), up m 46 0 ((x + (-1)) - 1) 0) (hbin 0 z2 z1 (fun b e l hst => by obtain ⟨h1, h2⟩ := hst2 b e l hst; rw [h1] at y2; rw [h2] at y3; rw [if_pos y1, b2_ne y2, b2_eq y3]; rfl))
    · exact ih (x + (-1), up m 46 0 ((x + (-1)) - 1) 1) (hbin 1 z2 z1 (fun b e l hst => by obtain ⟨h1, h2⟩ := hst2 b e l hst; rw [h1] at y2; rw [h2] at y3; rw [if_pos y1, b2_ne y2, b2_ne y3]; rfl))
    · exact ih (x, up m 46 0 (x - 1) 0) (hnot 0 z1 (fun b l hst => by have h1 := hst1 b l hst; rw [h1] at y2; rw [b2_ne y2]; rfl))
    · exact ih (x, up m 46 0 (x - 1) 1) (hnot 1 z1 (fun b l hst => by have h1 := hst1 b l hst; rw [h1] at y2; rw [b2_eq y2]; rfl))
  · rintro ⟨x, m⟩ ⟨hk0, he, hx, hpl⟩
    dsimp only at he hx hpl ⊢
    rw [ht, show μ 41 0 c + (to - fr) - μ 41 0 c = to - fr by omega] at hx hpl
    obtain ⟨l1, l2⟩ := ev_len (fact := F) hs (to - fr) (by omega) (by omega)
    rw [hs.2.2] at l1
    unfold holdF at h
    have e42 : m 42 0 c = μ 42 0 c := by rw [he 42 (by decide)]
    match hst : evL F code fr (to - fr), l1 with
    | [b], _ =>
      rw [hst] at h hpl
      have hb : m 46 0 0 = b2 b := hpl.1
      have h := h m he
      refine B_M_holds_10 (k1 := fun z => ?_) (b3 := fun _ => by rw [hb]; exact b2_01 b) (k2 := fun z => absurd z (by omega)) (k3 := fun z => absurd z (by omega)) (k4 := fun z => absurd z (by omega)) (k5 := fun z => absurd z (by omega)) (k6 := fun z => absurd z (by omega)) (k7 := fun z => absurd z (by omega)) (k8 := fun z => absurd z (by omega)) (k9 := fun z => absurd z (by omega)) (k10 := fun z => absurd z (by omega)) (k11 := fun z => absurd z (by omega)) (k12 := fun z => absurd z (by omega)) (k13 := fun z => absurd z (by omega)) (k14 := fun z => absurd z (by omega)) (k15 := fun z => absurd z (by omega))
      rw [hb]; exact h
    | [], h => simp at h
    | _ :: _ :: _, h => simp at h; omega
end
