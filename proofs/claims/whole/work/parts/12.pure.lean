/-! Helpers of the blocks: less known of the locals, sums that don't wrap, truth values. -/
def bI (p : Prop) [Decidable p] : Int := if p then 1 else 0
theorem bI_ne {p : Prop} [Decidable p] : bI p ≠ 0 ↔ p := by unfold bI; split <;> simp [*]
theorem bI_eq {p : Prop} [Decidable p] : bI p = 0 ↔ ¬ p := by unfold bI; split <;> simp [*]
theorem bI_01 {p : Prop} [Decidable p] : bI p = 0 ∨ bI p = 1 := by unfold bI; split <;> simp
theorem bI_t {p : Prop} [Decidable p] (h : p) : bI p = 1 := if_pos h
theorem bI_f {p : Prop} [Decidable p] (h : ¬ p) : bI p = 0 := if_neg h
theorem lc_eq {x y : Int} : l_cmp x y = 0 ↔ x = y := by unfold l_cmp; split <;> (try split) <;> omega
theorem lc_ne {x y : Int} : l_cmp x y ≠ 0 ↔ x ≠ y := by unfold l_cmp; split <;> (try split) <;> omega
theorem R_w {g : aG} {d m pc : Nat} {ls : aLs} {st : List aV} {μ : aM} {Q : aQ} {e : Int} (hr : -2147483648 ≤ e ∧ e < 2147483648) (h : Rn g d m pc ls (aI e :: st) μ Q) : Rn g d m pc ls (aI (w32 e) :: st) μ Q := by
  rw [w32_id hr]; exact h
theorem R_wL {g : aG} {d m pc : Nat} {L : Int → aLs} {st : List aV} {μ : aM} {Q : aQ} {e : Int} (hr : -2147483648 ≤ e ∧ e < 2147483648) (h : Rn g d m pc (L e) st μ Q) : Rn g d m pc (L (w32 e)) st μ Q := by
  rw [w32_id hr]; exact h
theorem qe {Q : aQ} {μ : aM} {x y : Int} (h : Q (some (aI x)) μ) (e : x = y) : Q (some (aI y)) μ := e ▸ h
theorem qeL {Q : aQ} {μ : aM} {x y : Int} (h : Q (some (aL x)) μ) (e : x = y) : Q (some (aL y)) μ := e ▸ h
def dropOk : aLs → aLs → Prop
  | [], [] => True
  | none :: l', _ :: l => dropOk l' l
  | some v :: l', x :: l => x = some v ∧ dropOk l' l
  | _, _ => False
theorem drop_nth : ∀ {L' L : aLs} {k : Nat} {v : aV}, dropOk L' L → nth L' k = some v → nth L k = some v
  | [], [], _, _, _, h => by cases h
  | none :: l', x :: l, 0, v, _, h => by cases h
  | none :: l', x :: l, k + 1, v, hd, h => drop_nth (L' := l') (L := l) hd h
  | some w :: l', x :: l, 0, v, hd, h => by rw [show nth (x :: l) 0 = x from rfl, hd.1]; exact h
  | some w :: l', x :: l, k + 1, v, hd, h => drop_nth (L' := l') (L := l) hd.2 h
  | [], _ :: _, _, _, hd, _ => hd.elim
  | none :: _, [], _, _, hd, _ => hd.elim
  | some _ :: _, [], _, _, hd, _ => hd.elim
theorem drop_st1 : ∀ {L' L : aLs} {k : Nat} {v : aV}, dropOk L' L → dropOk (st1 L' k v) (st1 L k v)
  | [], [], _, _, _ => trivial
  | none :: l', x :: l, 0, v, hd => ⟨rfl, hd⟩
  | some w :: l', x :: l, 0, v, hd => ⟨rfl, hd.2⟩
  | none :: l', x :: l, 1, v, hd => drop_st1 (L' := l') (L := l) hd
  | some w :: l', x :: l, 1, v, hd => by
    have h1 := hd.1
    subst h1
    cases hb : isLg (some w)
    · simp only [st1, hb, cond_false]; exact ⟨rfl, drop_st1 (L' := l') (L := l) hd.2⟩
    · simp only [st1, hb, cond_true]; exact drop_st1 (L' := l') (L := l) hd.2
  | none :: l', x :: l, n + 2, v, hd => drop_st1 (L' := l') (L := l) (k := n + 1) hd
  | some w :: l', x :: l, n + 2, v, hd => ⟨hd.1, drop_st1 (L' := l') (L := l) (k := n + 1) hd.2⟩
  | [], _ :: _, _, _, hd => hd.elim
  | none :: _, [], _, _, hd => hd.elim
  | some _ :: _, [], _, _, hd => hd.elim
theorem drop_kil : ∀ {L' L : aLs}, dropOk L' L → dropOk (kil L') (kil L)
  | [], [], _ => trivial
  | none :: l', x :: l, hd => hd
  | some w :: l', x :: l, hd => hd.2
  | [], _ :: _, hd => hd.elim
  | none :: _, [], hd => hd.elim
  | some _ :: _, [], hd => hd.elim
theorem drop_st2 : ∀ {L' L : aLs} {k : Nat} {v : aV}, dropOk L' L → dropOk (st2 L' k v) (st2 L k v)
  | [], [], _, _, _ => trivial
  | none :: l', x :: l, 0, v, hd => ⟨rfl, drop_kil (L' := l') (L := l) hd⟩
  | some w :: l', x :: l, 0, v, hd => ⟨rfl, drop_kil hd.2⟩
  | none :: l', x :: l, 1, v, hd => drop_st2 (L' := l') (L := l) hd
  | some w :: l', x :: l, 1, v, hd => by
    have h1 := hd.1
    subst h1
    cases hb : isLg (some w)
    · simp only [st2, hb, cond_false]; exact ⟨rfl, drop_st2 (L' := l') (L := l) hd.2⟩
    · simp only [st2, hb, cond_true]; exact drop_st2 (L' := l') (L := l) hd.2
  | none :: l', x :: l, n + 2, v, hd => drop_st2 (L' := l') (L := l) (k := n + 1) hd
  | some w :: l', x :: l, n + 2, v, hd => ⟨hd.1, drop_st2 (L' := l') (L := l) (k := n + 1) hd.2⟩
  | [], _ :: _, _, _, hd => hd.elim
  | none :: _, [], _, _, hd => hd.elim
  | some _ :: _, [], _, _, hd => hd.elim
section
variable {st : List aV}
theorem op1_m {f f' : Int → List aV → Prop} (h : op1 st f) (hf : ∀ x t, f x t → f' x t) : op1 st f' := by
  obtain ⟨x, t, rfl, h⟩ := op1_i h; exact hf _ _ h
theorem op2_m {f f' : Int → Int → List aV → Prop} (h : op2 st f) (hf : ∀ x y t, f x y t → f' x y t) : op2 st f' := by
  obtain ⟨x, y, t, rfl, h⟩ := op2_i h; exact hf _ _ _ h
theorem opL2_m {f f' : Int → Int → List aV → Prop} (h : opL2 st f) (hf : ∀ x y t, f x y t → f' x y t) : opL2 st f' := by
  obtain ⟨x, y, t, rfl, h⟩ := opL2_i h; exact hf _ _ _ h
theorem opLI_m {f f' : Int → Int → List aV → Prop} (h : opLI st f) (hf : ∀ x y t, f x y t → f' x y t) : opLI st f' := by
  obtain ⟨x, y, t, rfl, h⟩ := opLI_i h; exact hf _ _ _ h
theorem opL1_m {f f' : Int → List aV → Prop} (h : opL1 st f) (hf : ∀ x t, f x t → f' x t) : opL1 st f' := by
  obtain ⟨x, t, rfl, h⟩ := opL1_i h; exact hf _ _ h
theorem opQ_m {f f' : (Nat × Int) ⊕ Nat → List aV → Prop} (h : opQ st f) (hf : ∀ x t, f x t → f' x t) : opQ st f' := by
  obtain ⟨x, t, rfl, h⟩ := opQ_i h; exact hf _ _ h
theorem opR_m {f f' : Nat → Int → List aV → Prop} (h : opR st f) (hf : ∀ k a t, f k a t → f' k a t) : opR st f' := by
  obtain ⟨k, a, t, rfl, h⟩ := opR_i h; exact hf _ _ _ h
theorem opIR_m {f f' : Nat → Int → Int → List aV → Prop} (h : opIR st f) (hf : ∀ k a i t, f k a i t → f' k a i t) : opIR st f' := by
  obtain ⟨k, a, i, t, rfl, h⟩ := opIR_i h; exact hf _ _ _ _ h
theorem opIRp_m {f f' : Nat → Int → Int → List aV → Prop} (h : opIRp st f) (hf : ∀ k a i t, f k a i t → f' k a i t) : opIRp st f' := by
  obtain ⟨k, a, i, t, rfl, h⟩ := opIRp_i h; exact hf _ _ _ _ h
theorem opIIR_m {f f' : Nat → Int → Int → Int → List aV → Prop} (h : opIIR st f) (hf : ∀ k a i x t, f k a i x t → f' k a i x t) : opIIR st f' := by
  obtain ⟨k, a, i, x, t, rfl, h⟩ := opIIR_i h; exact hf _ _ _ _ _ h
theorem opLIR_m {f f' : Nat → Int → Int → Int → List aV → Prop} (h : opLIR st f) (hf : ∀ k a i x t, f k a i x t → f' k a i x t) : opLIR st f' := by
  obtain ⟨k, a, i, x, t, rfl, h⟩ := opLIR_i h; exact hf _ _ _ _ _ h
end
theorem ests_m {tc k : Nat} {a i : Int} {f f' : Prop} (h : ests tc k a i f) (hf : f → f') : ests tc k a i f' := by
  unfold ests at h ⊢
  split at h
  · obtain ⟨h1, h2, h3⟩ := bif_i h
    simp only [h1, cond_true]; exact ⟨h2, hf h3⟩
  · exact h.elim
theorem elds_m {tc : Nat} {g : aG} {k : Nat} {a i : Int} {f f' : (aM → Int) → Prop} (h : elds tc g k a i f) (hf : ∀ v, f v → f' v) : elds tc g k a i f' := by
  unfold elds at h ⊢
  cases hb : Nat.blt k 100
  · rw [hb, cond_false] at h
    rw [cond_false]
    obtain ⟨h1, h2, h3⟩ := bif_i h
    simp only [h1, cond_true]; exact ⟨h2, hf _ h3⟩
  · rw [hb, cond_true] at h
    rw [cond_true]
    split at h
    · obtain ⟨h1, h2, h3⟩ := bif_i h
      simp only [h1, cond_true]; exact ⟨h2, hf _ h3⟩
    · exact h.elim
theorem bif_m {b : Bool} {A B A' B' : Prop} (h : bif b then A else B) (h1 : A → A') (h2 : B → B') : bif b then A' else B' := by
  cases b
  · exact h2 h
  · exact h1 h
theorem swT_m {x : Int} {K K' : Int → Prop} {Df Df' : Prop} (hK : ∀ o, K o → K' o) (hD : Df → Df') : ∀ {l : List Int} {lo : Int}, swT x K Df lo l → swT x K' Df' lo l
  | [], _, h => hD h
  | _ :: l, lo, h => ⟨fun e => hK _ (h.1 e), fun e => swT_m hK hD (l := l) (h.2 e)⟩
theorem swL_m {x : Int} {K K' : Int → Prop} {Df Df' : Prop} (hK : ∀ o, K o → K' o) (hD : Df → Df') : ∀ {l : List (Int × Int)}, swL x K Df l → swL x K' Df' l
  | [], h => hD h
  | (_, _) :: l, h => ⟨fun e => hK _ (h.1 e), fun e => swL_m hK hD (l := l) (h.2 e)⟩
theorem prims_m {mid : Nat} {st : List aV} {μ : aM} {K K' : List aV → aM → Prop} (h : prims mid st μ K) (hK : ∀ t μ', K t μ' → K' t μ') : prims mid st μ K' := by
  unfold prims at h ⊢
  split at h
  · exact op2_m h fun _ _ _ z => ⟨z.1, hK _ _ z.2⟩
  · exact op2_m h fun _ _ _ z => ⟨z.1, hK _ _ z.2⟩
  · exact op1_m h fun _ _ z => ⟨z.1, hK _ _ z.2⟩
  · split at h
    · split at h
      · rename_i he0 he1
        obtain ⟨h1, h2, h3, h4⟩ := bif_i h
        simp only [he0, he1, h1, cond_true]
        exact ⟨h2, h3, hK _ _ h4⟩
      · exact h.elim
    · exact h.elim
  · exact h.elim
set_option maxHeartbeats 4000000 in
theorem wp1_drop {g : aG} {C : aCal} (hC : Cone C) {rt : Nat} {i : Instr} {n : Nat} {r : aRs} {pc : Nat} {L' L : aLs} {st : List aV} {μ : aM} {K' K : aK} {R : aQ} (hd : dropOk L' L) (hK : ∀ a b b' c e, dropOk b b' → K' a b c e → K a b' c e) (h : wp1 g C rt i n r pc L' st μ K' R) : wp1 g C rt i n r pc L st μ K R := by
  cases i
  all_goals simp only [wp1] at h ⊢
  all_goals first
    | exact h
    | exact hK _ _ _ _ _ hd h
    | exact op1_m h fun _ _ z => hK _ _ _ _ _ hd z
    | exact op2_m h fun _ _ _ z => hK _ _ _ _ _ hd z
    | exact op2_m h fun _ _ _ z => ⟨z.1, hK _ _ _ _ _ hd z.2⟩
    | exact opL2_m h fun _ _ _ z => hK _ _ _ _ _ hd z
    | exact opLI_m h fun _ _ _ z => hK _ _ _ _ _ hd z
    | exact opL1_m h fun _ _ z => hK _ _ _ _ _ hd z
    | exact op1_m h fun _ _ z => hK _ _ _ _ _ (drop_st1 hd) z
    | exact opQ_m h fun _ _ z => hK _ _ _ _ _ (drop_st1 hd) z
    | exact opL1_m h fun _ _ z => hK _ _ _ _ _ (drop_st2 hd) z
    | (obtain ⟨x, hx, z⟩ := ldI_i h; rw [drop_nth hd hx]; exact hK _ _ _ _ _ hd z)
    | (obtain ⟨x, hx, z⟩ := ldI_i h; rw [drop_nth hd hx]; exact hK _ _ _ _ _ (drop_st1 hd) z)
    | (obtain ⟨x, hx, z⟩ := ldL_i h; rw [drop_nth hd hx]; exact hK _ _ _ _ _ hd z)
    | (obtain ⟨x, hx, z⟩ := ldR_i h; rw [drop_nth hd hx]; exact hK _ _ _ _ _ hd z)
    | exact bif_m h (hK _ _ _ _ _ hd) (hK _ _ _ _ _ hd)
    | exact op1_m h fun _ _ z => ⟨fun c => hK _ _ _ _ _ hd (z.1 c), fun c => hK _ _ _ _ _ hd (z.2 c)⟩
    | exact op2_m h fun _ _ _ z => ⟨fun c => hK _ _ _ _ _ hd (z.1 c), fun c => hK _ _ _ _ _ hd (z.2 c)⟩
    | exact op1_m h fun _ _ z => swT_m (fun _ y => hK _ _ _ _ _ hd y) (fun y => hK _ _ _ _ _ hd y) z
    | exact op1_m h fun _ _ z => swL_m (fun _ y => hK _ _ _ _ _ hd y) (fun y => hK _ _ _ _ _ hd y) z
    | exact opIR_m h fun _ _ _ _ z => elds_m z fun _ y => hK _ _ _ _ _ hd y
    | exact opIR_m h fun _ _ _ _ z => bif_m z (fun z => elds_m z fun _ y => hK _ _ _ _ _ hd y) (fun z => elds_m z fun _ y => hK _ _ _ _ _ hd y)
    | exact opIR_m h fun _ _ _ _ z => ests_m z fun y => hK _ _ _ _ _ hd y
    | exact opIIR_m h fun _ _ _ _ _ z => ests_m z fun y => hK _ _ _ _ _ hd y
    | exact opIIR_m h fun _ _ _ _ _ z => bif_m z (fun z => ests_m z fun y => ⟨y.1, hK _ _ _ _ _ hd y.2⟩) (fun z => ests_m z fun y => hK _ _ _ _ _ hd y)
    | exact opLIR_m h fun _ _ _ _ _ z => ests_m z fun y => hK _ _ _ _ _ hd y
    | exact opR_m h fun _ _ _ z => bif_m z (fun y => y) (fun z => bif_m z (fun y => y) (fun y => hK _ _ _ _ _ hd y))
    | skip
  case dup => split at h <;> first | exact hK _ _ _ _ _ hd h | exact h.elim
  case aaload =>
    refine opIR_m h fun _ _ _ _ z => ?_
    split at z
    · exact ⟨z.1, hK _ _ _ _ _ hd z.2⟩
    · exact z
  case getfield =>
    refine opR_m h fun _ _ _ z => bif_m z (fun z => bif_m z (fun y => hK _ _ _ _ _ hd y) (fun y => y)) (fun z => bif_m z (fun z => bif_m z (fun y => hK _ _ _ _ _ hd y) (fun y => y)) (fun z => bif_m z (fun z => ?_) (fun y => y)))
    split at z <;> first | exact hK _ _ _ _ _ hd z | exact z
  case putfield =>
    refine opIRp_m h fun _ _ _ _ z => bif_m z (fun z => ?_) (fun y => y)
    split at z <;> first | exact hK _ _ _ _ _ hd z | exact ⟨z.1, hK _ _ _ _ _ hd z.2⟩ | exact z
  case getstatic => split at h <;> first | exact hK _ _ _ _ _ hd h | exact h
  case invokevirtual =>
    split at h
    · refine bif_m h (fun z => ⟨z.1, ?_⟩) (fun y => y)
      obtain ⟨rv, μ', h1, h2⟩ := hC _ _ _ _ z.2
      exact h2 _ (hK _ _ _ _ _ hd h1)
    · exact h
  case invokestatic =>
    refine bif_m h (fun z => ?_) (fun z => prims_m z fun _ _ y => hK _ _ _ _ _ hd y)
    split at z
    · refine ⟨z.1, ?_⟩
      obtain ⟨rv, μ', h1, h2⟩ := hC _ _ _ _ z.2
      exact h2 _ (hK _ _ _ _ _ hd h1)
    · exact z
theorem wpK_drop {g : aG} {C : aCal} (hC : Cone C) {m : Nat} {Q : aQ} : ∀ (n pc : Nat) (L' L : aLs) (st : List aV) (μ : aM), dropOk L' L → wpK g C m n pc L' st μ (fun _ _ _ _ => False) Q → wpK g C m n pc L st μ (fun _ _ _ _ => False) Q := by
  intro n
  induction n with
  | zero => intro pc L' L st μ hd h; exact h
  | succ n ih =>
    intro pc L' L st μ hd h
    simp only [wpK] at h ⊢
    split at h
    · exact wp1_drop hC hd (fun a b b' c e hb z => ih a b b' c e hb z) h
    · exact h.elim
theorem R_drop {g : aG} {d m pc : Nat} {L L2 : aLs} {st : List aV} {μ : aM} {Q : aQ} (hd : dropOk L L2) (h : Rn g d m pc L st μ Q) : Rn g d m pc L2 st μ Q := by
  obtain ⟨n, h⟩ := h
  exact ⟨n, wpK_drop (cone_cal g d) n _ _ _ _ _ hd h⟩
