/-! When an E holds. -/
def b2 (b : Bool) : Int := bif b then 1 else 0
def nb : List Bool → Int
  | [] => 0
  | b :: l => b2 b + 2 * nb l
def tstB (s is num : Int) : Bool := if s = 0 then decide (is < num) else if s = 1 then decide (is = num) else decide (num < is)
def evS (fact : Int → Int) (st : List Bool) (tk : Int) : List Bool :=
  if tk = -1 then (match st with | b :: l => (!b) :: l | [] => []) else if tk = -2 then (match st with | b :: c :: l => (c && b) :: l | l => l) else if tk = -3 then (match st with | b :: c :: l => (c || b) :: l | l => l) else tstB (tk / 128 % 4) (fact (tk / 512)) (tk % 128) :: st
def evL (fact code : Int → Int) (fr i : Int) : List Bool := fI (fun s i => evS fact s (code (fr + i))) [] i
def holdF (fact code : Int → Int) (fr to : Int) : Bool := (evL fact code fr (to - fr)).headD false
def dS (n tk : Int) : Int := if tk = -1 then n else if tk = -2 ∨ tk = -3 then n - 1 else n + 1
def dpt (code : Int → Int) (fr i : Int) : Int := fI (fun n i => dS n (code (fr + i))) 0 i
def tkOk (n tk : Int) : Prop := (tk = -1 ∧ 1 ≤ n) ∨ ((tk = -2 ∨ tk = -3) ∧ 2 ≤ n) ∨ ((0 ≤ tk ∧ tk < 3072) ∧ tk / 128 % 4 ≤ 2 ∧ tk % 128 ≤ 99 ∧ n ≤ 50)
def segOk (code : Int → Int) (fr to : Int) : Prop := fr ≤ to ∧ (∀ i, 0 ≤ i → i < to - fr → tkOk (dpt code fr i) (code (fr + i))) ∧ dpt code fr (to - fr) = 1
theorem nb_rng : ∀ (n : Nat) (l : List Bool), l.length ≤ n → 0 ≤ nb l ∧ nb l < 2 ^ n
  | _, [], _ => ⟨by unfold nb; omega, by unfold nb; exact Int.pow_pos (by omega)⟩
  | 0, _ :: _, h => by simp at h
  | n + 1, b :: l, h => by
    have := nb_rng n l (by simpa using h)
    have e : (2 : Int) ^ (n + 1) = 2 * 2 ^ n := by rw [Int.pow_succ]; omega
    rw [e]
    unfold nb b2
    cases b <;> simp <;> omega
theorem nb_60 {l : List Bool} (h : l.length ≤ 51) : 0 ≤ nb l ∧ nb l < 2 ^ 60 := by
  have := nb_rng 51 l h
  omega
theorem evS_len {fact : Int → Int} {st : List Bool} {tk : Int} (h : tkOk st.length tk) : ((evS fact st tk).length : Int) = dS st.length tk := by
  unfold evS dS
  rcases h with ⟨rfl, h⟩ | ⟨rfl | rfl, h⟩ | ⟨h1, h2, h3, h4⟩
  · match st, h with
    | b :: l, _ => simp
  · match st, h with
    | b :: c :: l, _ => simp <;> omega
    | [b], h => simp at h
    | [], h => simp at h
  · match st, h with
    | b :: c :: l, _ => simp <;> omega
    | [b], h => simp at h
    | [], h => simp at h
  · rw [if_neg (by omega), if_neg (by omega), if_neg (by omega), if_neg (by omega), if_neg (by omega)]; simp
theorem ev_len {fact code : Int → Int} {fr to : Int} (h : segOk code fr to) : ∀ i, 0 ≤ i → i ≤ to - fr → ((evL fact code fr i).length : Int) = dpt code fr i ∧ dpt code fr i ≤ 51 := by
  intro i h0 hi
  obtain ⟨k, rfl⟩ : ∃ k : Nat, i = (k : Int) := ⟨i.toNat, by omega⟩
  induction k with
  | zero => exact ⟨rfl, by show (0 : Int) ≤ 51; omega⟩
  | succ k ih =>
    obtain ⟨h1, h2⟩ := ih (by omega) (by omega)
    have ht := h.2.1 k (by omega) (by omega)
    unfold evL dpt at *
    rw [show ((k + 1 : Nat) : Int) = (k : Int) + 1 by omega, fI_s (by omega), fI_s (by omega)]
    rw [← h1] at ht h2 ⊢
    refine ⟨evS_len ht, ?_⟩
    unfold dS
    rcases ht with ⟨z, z2⟩ | ⟨z, z2⟩ | ⟨z1, z2, z3, z4⟩
    · rw [if_pos z]; omega
    · rw [if_neg (by omega), if_pos z]; omega
    · rw [if_neg (by omega), if_neg (by omega)]; omega
/-- one token, in the class's bits -/
theorem by_not {b : Bool} {r : Int} (h0 : 0 ≤ r) (h : r < 2 ^ 58) : l_xor (b2 b + 2 * r) 1 = b2 (!b) + 2 * r := by
  cases b
  · show l_xor (0 + 2 * r) 1 = 1 + 2 * r
    rw [bx_not (by omega) (by omega), if_neg (by omega)]; omega
  · show l_xor (1 + 2 * r) 1 = 0 + 2 * r
    rw [bx_not (by omega) (by omega), if_pos (by omega)]; omega
theorem by_and {b c : Bool} {r : Int} (h0 : 0 ≤ r) (h : r < 2 ^ 57) : l_and (l_shr (b2 b + 2 * (b2 c + 2 * r)) 1) (l_or (b2 b + 2 * (b2 c + 2 * r)) (-2)) = b2 (c && b) + 2 * r := by
  have key : ∀ x y z : Int, (x = 0 ∨ x = 1) → (y = 0 ∨ y = 1) → z = (if x = 1 ∧ y = 1 then 1 else 0) → l_and (l_shr (x + 2 * (y + 2 * r)) 1) (l_or (x + 2 * (y + 2 * r)) (-2)) = z + 2 * r := by
    intro x y z hx hy hz
    rw [bx_and (by omega) (by omega), hz]
    split <;> split <;> omega
  exact key _ _ _ (by cases b <;> simp [b2]) (by cases c <;> simp [b2]) (by cases b <;> cases c <;> simp [b2])
theorem by_or {b c : Bool} {r : Int} (h0 : 0 ≤ r) (h : r < 2 ^ 57) : l_or (l_shr (b2 b + 2 * (b2 c + 2 * r)) 1) (l_and (b2 b + 2 * (b2 c + 2 * r)) 1) = b2 (c || b) + 2 * r := by
  have key : ∀ x y z : Int, (x = 0 ∨ x = 1) → (y = 0 ∨ y = 1) → z = (if x = 1 ∨ y = 1 then 1 else 0) → l_or (l_shr (x + 2 * (y + 2 * r)) 1) (l_and (x + 2 * (y + 2 * r)) 1) = z + 2 * r := by
    intro x y z hx hy hz
    rw [bx_or (by omega) (by omega), hz]
    split <;> split <;> omega
  exact key _ _ _ (by cases b <;> simp [b2]) (by cases c <;> simp [b2]) (by cases b <;> cases c <;> simp [b2])
theorem nb_not {fact : Int → Int} {st : List Bool} (h : tkOk st.length (-1)) (h51 : st.length ≤ 51) : l_xor (nb st) 1 = nb (evS fact st (-1)) := by
  have h1 : 1 ≤ st.length := by rcases h with ⟨-, h⟩ | ⟨h, -⟩ | ⟨h, -⟩ <;> omega
  match st, h1, h51 with
  | b :: l, _, h51 =>
    have := nb_rng 51 l (by simp at h51; omega)
    exact by_not this.1 (by omega)
theorem nb_and {fact : Int → Int} {st : List Bool} (h : tkOk st.length (-2)) (h51 : st.length ≤ 51) : l_and (l_shr (nb st) 1) (l_or (nb st) (-2)) = nb (evS fact st (-2)) := by
  have h1 : 2 ≤ st.length := by rcases h with ⟨h, -⟩ | ⟨-, h⟩ | ⟨h, -⟩ <;> omega
  match st, h1, h51 with
  | b :: c :: l, _, h51 =>
    have := nb_rng 51 l (by simp at h51; omega)
    exact by_and this.1 (by omega)
  | [b], h, _ => simp at h
  | [], h, _ => simp at h
theorem nb_or {fact : Int → Int} {st : List Bool} (h : tkOk st.length (-3)) (h51 : st.length ≤ 51) : l_or (l_shr (nb st) 1) (l_and (nb st) 1) = nb (evS fact st (-3)) := by
  have h1 : 2 ≤ st.length := by rcases h with ⟨h, -⟩ | ⟨-, h⟩ | ⟨h, -⟩ <;> omega
  match st, h1, h51 with
  | b :: c :: l, _, h51 =>
    have := nb_rng 51 l (by simp at h51; omega)
    exact by_or this.1 (by omega)
  | [b], h, _ => simp at h
  | [], h, _ => simp at h
theorem evS_t {fact : Int → Int} {st : List Bool} {tk : Int} (h1 : tk ≠ -1) (h2 : tk ≠ -2) (h3 : tk ≠ -3) : evS fact st tk = tstB (tk / 128 % 4) (fact (tk / 512)) (tk % 128) :: st := by
  unfold evS; rw [if_neg h1, if_neg h2, if_neg h3]
theorem b2_01 (b : Bool) : b2 b = 0 ∨ b2 b = 1 := by cases b <;> simp [b2]
theorem nb_tst {fact : Int → Int} {st : List Bool} {tk c : Int} (h1 : tk ≠ -1) (h2 : tk ≠ -2) (h3 : tk ≠ -3) (h51 : st.length ≤ 51) (hc : c = b2 (tstB (tk / 128 % 4) (fact (tk / 512)) (tk % 128))) : l_or (l_shl (nb st) 1) c = nb (evS fact st tk) := by
  have hb := nb_60 h51
  rw [evS_t h1 h2 h3, bx_push hb.1 hb.2 (by rw [hc]; exact b2_01 _), hc]
  simp only [nb]; omega
theorem tst_2 {s is num : Int} (h : num < is) (h0 : 0 ≤ s ∧ s ≤ 2) : b2 (tstB s is num) = bI (2 = s) := by
  unfold tstB bI b2
  have e1 : ¬ is < num := by omega
  have e2 : ¬ is = num := by omega
  by_cases z : s = 0
  · simp [z, e1]
  · by_cases z1 : s = 1
    · simp [z1, e2]
    · have : s = 2 := by omega
      simp [this, h]
theorem tst_1 {s is num : Int} (h : is = num) : b2 (tstB s is num) = bI (1 = s) := by
  unfold tstB bI b2
  by_cases z : s = 0
  · simp [z, h]
  · by_cases z1 : s = 1
    · simp [z1, h]
    · simp [z, z1, h, Ne.symm z1]
theorem tst_0 {s is num : Int} (h : is < num) : b2 (tstB s is num) = bI (0 = s) := by
  unfold tstB bI b2
  by_cases z : s = 0
  · simp [z, h]
  · by_cases z1 : s = 1
    · have : ¬ is = num := by omega
      simp [z1, this]
    · have : ¬ num < is := by omega
      simp [z, z1, this, Ne.symm z]
section
variable {g : aG} {d : Nat} {μ : aM} {Q : aQ} {a t p B fr to : Int}
theorem vok_p (h : VOk B (vC μ a)) (h0 : 0 ≤ p) (h6 : p < 6) : (0 ≤ μ 3 a p ∧ μ 3 a p ≤ 6) ∧ (0 ≤ μ 4 a p ∧ μ 4 a p ≤ 9) ∧ (0 ≤ μ 5 a p ∧ μ 5 a p ≤ 99) ∧ (-999 ≤ μ 6 a p ∧ μ 6 a p ≤ 999) ∧ (μ 7 a p = 0 ∨ μ 7 a p = 1) ∧ (0 ≤ μ 2 a 1 ∧ μ 2 a 1 ≤ B) := by
  have := h.2.2 p h0 h6
  unfold vk vv vu vo va vC at this
  dsimp only at this
  rw [t6_in h0 h6, t6_in h0 h6, t6_in h0 h6, t6_in h0 h6, t6_in h0 h6] at this
  exact ⟨this.1, this.2.1, this.2.2.1, this.2.2.2.1, this.2.2.2.2.1, h.2.1⟩
theorem c_To_holds (hV : VOk B (vC μ a)) (hB : B ≤ 1000000) (hp : 0 ≤ p ∧ p < 6) (hs : segOk (μ 18 t) fr to) (hfr : 0 ≤ fr) (hto : to ≤ 100)
    (h : Q (some (aI (b2 (holdF (factF p (μ 3 a p) (μ 4 a p) (μ 5 a p) (μ 6 a p) (μ 2 a 1)) (μ 18 t) fr to)))) μ) : Cal g (d + 2) m_To_holds [aR 14 t, aI fr, aI to, aR 2 a, aI p] μ Q := by
  obtain ⟨p1, p2, p3, p4, p5, p6⟩ := vok_p hV hp.1 hp.2
  generalize hf : factF p (μ 3 a p) (μ 4 a p) (μ 5 a p) (μ 6 a p) (μ 2 a 1) = F at h
  refine T_To_holds (loopR (n := to) (fun k x => Rn g (d + 1) m_To_holds 6 [some (aR 14 t), some (aI fr), some (aI to), some (aR 2 a), some (aI p), some (aL x), none, some (aI k), none, none, none, none] [] μ Q) (fun k x => fr ≤ k ∧ x = nb (evL F (μ 18 t) fr (k - fr))) ?_ ?_ fr 0 hfr hs.1 ⟨Int.le_refl _, by rw [Int.sub_self]; rfl⟩)
  · intro k x h0 hk hx ih
    obtain ⟨hk0, hx⟩ := hx
    obtain ⟨l1, l2⟩ := ev_len (fact := F) hs (k - fr) (by omega) (by omega)
    have hok := hs.2.1 (k - fr) (by omega) (by omega)
    rw [show fr + (k - fr) = k by omega, ← l1] at hok
    have hE : evL F (μ 18 t) fr (k + 1 - fr) = evS F (evL F (μ 18 t) fr (k - fr)) (μ 18 t k) := by
      unfold evL
      rw [show k + 1 - fr = (k - fr) + 1 by omega, fI_s (by omega), show fr + (k - fr) = k by omega]
    have h51 : (evL F (μ 18 t) fr (k - fr)).length ≤ 51 := by omega
    have hT : ∀ c, μ 18 t k ≠ -1 → μ 18 t k ≠ -2 → μ 18 t k ≠ -3 → ((0 ≤ μ 18 t k ∧ μ 18 t k < 3072) ∧ μ 18 t k / 128 % 4 ≤ 2) ∧ (c = b2 (tstB (μ 18 t k / 128 % 4) (F (μ 18 t k / 512)) (μ 18 t k % 128)) → fr ≤ k + 1 ∧ l_or (l_shl x 1) c = nb (evL F (μ 18 t) fr (k + 1 - fr))) := fun c z1 z2 z3 => by
      rcases hok with ⟨z, -⟩ | ⟨z, -⟩ | ⟨y1, y2, y3, y4⟩
      · exact absurd z z1
      · omega
      · exact ⟨⟨y1, y2⟩, fun hc => ⟨by omega, by rw [hE, hx]; exact nb_tst z1 z2 z3 h51 hc⟩⟩
    have hbit : ∀ c, μ 18 t k ≠ -1 → μ 18 t k ≠ -2 → μ 18 t k ≠ -3 → (∀ s, s = b_and (b_shr (μ 18 t k) 7) 3 → 0 ≤ s ∧ s ≤ 2 → c = b2 (tstB s (F (b_shr (μ 18 t k) 9)) (b_and (μ 18 t k) 127))) → fr ≤ k + 1 ∧ l_or (l_shl x 1) c = nb (evL F (μ 18 t) fr (k + 1 - fr)) := fun c z1 z2 z3 hc => by
      obtain ⟨⟨⟨y1, y1'⟩, y2⟩, y3⟩ := hT c z1 z2 z3
      obtain ⟨e1, e2, e3⟩ := tk_at y1 y1'
      refine y3 ?_
      have := hc _ rfl (by rw [e3]; omega)
      rw [e1, e2, e3] at this
      exact this
    refine B_To_holds_6 (k1 := fun z => absurd z (by omega)) (k2 := fun z => absurd z (by omega))
      (k3 := fun _ z1 z2 z3 y1 y2 y3 => ih _ (hbit 0 z1 z2 z3 (fun s hs1 hs2 => ?_))) (k4 := fun _ z1 z2 z3 y1 y2 y3 => ih _ (hbit 1 z1 z2 z3 (fun s hs1 hs2 => ?_)))
      (k5 := fun _ z1 z2 z3 y1 y2 y3 => ih _ (hbit 0 z1 z2 z3 (fun s hs1 hs2 => ?_))) (k6 := fun _ z1 z2 z3 y1 y2 y3 => ih _ (hbit 1 z1 z2 z3 (fun s hs1 hs2 => ?_)))
      (k7 := fun _ z1 z2 z3 y1 y3 => ih _ (hbit 0 z1 z2 z3 (fun s hs1 hs2 => ?_))) (k8 := fun _ z1 z2 z3 y1 y3 => ih _ (hbit 1 z1 z2 z3 (fun s hs1 hs2 => ?_)))
      (k9 := fun _ z1 z2 z3 => ih _ ⟨by omega, ?_⟩) (k10 := fun _ z1 z2 => ih _ ⟨by omega, ?_⟩) (k11 := fun _ z1 => ih _ ⟨by omega, ?_⟩)
    · rw [hf] at y1 y2; rw [tst_2 (by omega) hs2, hs1, bI_f y3]
    · rw [hf] at y1 y2; rw [tst_2 (by omega) hs2, hs1, bI_t y3]
    · rw [hf] at y1 y2; rw [tst_1 y2, hs1, bI_f y3]
    · rw [hf] at y1 y2; rw [tst_1 y2, hs1, bI_t y3]
    · rw [hf] at y1; rw [tst_0 y1, hs1, bI_f y3]
    · rw [hf] at y1; rw [tst_0 y1, hs1, bI_t y3]
    · rw [hE, hx, z3]; rw [z3] at hok; exact nb_or hok h51
    · rw [hE, hx, z2]; rw [z2] at hok; exact nb_and hok h51
    · rw [hE, hx, z1]; rw [z1] at hok; exact nb_not hok h51
  · intro x hx
    obtain ⟨-, hx⟩ := hx
    obtain ⟨l1, l2⟩ := ev_len (fact := F) hs (to - fr) (by have := hs.1; omega) (by omega)
    rw [hs.2.2] at l1
    unfold holdF at h
    have hb := nb_60 (l := evL F (μ 18 t) fr (to - fr)) (by omega)
    rw [← hx] at hb
    have hl := bx_low hb.1 hb.2
    match hst : evL F (μ 18 t) fr (to - fr), l1 with
    | [b], _ =>
      rw [hst] at h hx
      simp only [List.headD_cons] at h
      refine B_To_holds_6 (k1 := fun _ z => ?_) (k2 := fun _ z => ?_) (k3 := fun z => absurd z (by omega)) (k4 := fun z => absurd z (by omega)) (k5 := fun z => absurd z (by omega)) (k6 := fun z => absurd z (by omega)) (k7 := fun z => absurd z (by omega)) (k8 := fun z => absurd z (by omega)) (k9 := fun z => absurd z (by omega)) (k10 := fun z => absurd z (by omega)) (k11 := fun z => absurd z (by omega))
      · rw [hl, hx] at z
        cases b
        · exact h
        · exact absurd rfl z
      · rw [hl, hx] at z
        cases b
        · exact absurd z (by decide)
        · exact h
    | [], h => simp at h
    | _ :: _ :: _, h => simp at h; omega
end
