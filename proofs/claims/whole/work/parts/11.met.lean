/-! From runs to contracts. -/
theorem sound_K {p : Program} {l : Launch} {e : Env} {R : Room} {s : State} {m : MethodId} {args : Array Value} {below : List Frame} {meth : Method} {c : Code} {cells slots : Nat} {Z : State → Prop} {g : aG} {d mid : Nat} {D : va_G} {cA : Nat → ClassId} {ad : Nat → Int → Nat} {od : Nat → Value} {A : Nat → Prop} {q : aMT} (X : Ctx p R s m args c cells slots g d mid D cA ad od A q) (hCal : CalS l g d) : ∀ (n pc : Nat) (L : aLs) (st : List aV) (μ : aM), wpK g (Cal g d) mid n pc L st μ (fun pc' L' st' μ' => Go p l e R s m args below meth c cells slots Z D cA ad od A q pc' L' st' μ') (fun rv μ' => Rg p l e R s m args below meth c cells slots Z D cA ad od A q rv μ') → Go p l e R s m args below meth c cells slots Z D cA ad od A q pc L st μ := by
  intro n
  induction n with
  | zero => intro pc L st μ h; exact h
  | succ n ih =>
    intro pc L st μ h
    simp only [wpK] at h
    split at h
    · rename_i i len r hlk
      exact sound_1 X hCal hlk (wp1_mono (cone_cal g d) h (fun a b c' e' z => ih a b c' e' z) (fun _ _ z => z))
    · exact h.elim
theorem sound_R {p : Program} {l : Launch} {e : Env} {R : Room} {s : State} {m : MethodId} {args : Array Value} {below : List Frame} {meth : Method} {c : Code} {cells slots : Nat} {Z : State → Prop} {g : aG} {d mid : Nat} {D : va_G} {cA : Nat → ClassId} {ad : Nat → Int → Nat} {od : Nat → Value} {A : Nat → Prop} {q : aMT} (X : Ctx p R s m args c cells slots g d mid D cA ad od A q) (hCal : CalS l g d) {pc : Nat} {L : aLs} {st : List aV} {μ : aM} {Q : aQ} (h : RnC g (Cal g d) mid pc L st μ Q) (hQ : ∀ rv μ', Q rv μ' → Rg p l e R s m args below meth c cells slots Z D cA ad od A q rv μ') : Go p l e R s m args below meth c cells slots Z D cA ad od A q pc L st μ := by
  obtain ⟨n, h⟩ := h
  exact sound_K X hCal n pc L st μ (wpK_mono (cone_cal g d) h (fun _ _ _ _ z => z.elim) hQ)
theorem wsD {cA : Nat → ClassId} {ad : Nat → Int → Nat} {μ μ' : aM} {A : Nat → Prop} (h : va_D A (wsOf cA ad μ)) : va_D A (wsOf cA ad μ') := by
  have key : ∀ (k : Nat) (q : Nat × va_E), (wsOf cA ad μ')[k]? = some q → ∃ e, (wsOf cA ad μ)[k]? = some (q.1, e) := by
    intro k q hk
    unfold wsOf at hk ⊢
    rw [List.getElem?_map] at hk ⊢
    cases hi : ids[k]? with
    | none => rw [hi] at hk; cases hk
    | some x => rw [hi] at hk; cases hk; exact ⟨_, rfl⟩
  refine ⟨fun i j p q hi hj hpq => ?_, fun k q hk => ?_⟩
  · obtain ⟨e1, h1⟩ := key i p hi
    obtain ⟨e2, h2⟩ := key j q hj
    exact h.1 i j _ _ h1 h2 hpq
  · obtain ⟨e1, h1⟩ := key k q hk
    exact h.2 k (q.1, e1) h1
theorem sl_len {ad : Nat → Int → Nat} {od : Nat → Value} (hod : ∀ j, od j = .null ∨ ∃ a, od j = .ref a) : ∀ as : List aV, (lg_sl (as.map (conc ad od))).length = slen as
  | [] => rfl
  | Sum.inl x :: l => by
    have := sl_len (ad := ad) hod l
    simp only [List.map_cons, lg_sl, List.flatMap_cons, slen] at this ⊢
    rw [List.length_append, this, show (conc ad od (Sum.inl x)).category = 1 from rfl]; simp; omega
  | Sum.inr (Sum.inl x) :: l => by
    have := sl_len (ad := ad) hod l
    simp only [List.map_cons, lg_sl, List.flatMap_cons, slen] at this ⊢
    rw [List.length_append, this, show (conc ad od (Sum.inr (Sum.inl x))).category = 2 from rfl]; simp; omega
  | Sum.inr (Sum.inr x) :: l => by
    have := sl_len (ad := ad) hod l
    simp only [List.map_cons, lg_sl, List.flatMap_cons, slen] at this ⊢
    have hc : (conc ad od (Sum.inr (Sum.inr x))).category = 1 := cat_isLg hod rfl
    rw [List.length_append, this, hc]; simp; omega
theorem pad_nth : ∀ n j v, nth (pad n) j ≠ some v
  | 0, _, _, h => by cases h
  | n + 1, 0, _, h => by cases h
  | n + 1, j + 1, v, h => pad_nth n j v h
theorem ent_mem {ad : Nat → Int → Nat} {od : Nat → Value} (hod : ∀ j, od j = .null ∨ ∃ a, od j = .ref a) : ∀ (as : List aV) (n i j : Nat) (v : aV), nth (ent n as) j = some v → (i + j, conc ad od v) ∈ lv_args i (as.map (conc ad od)) ∧ v ∈ as
  | [], n, i, j, v, h => by
    have : ent n [] = pad n := by cases n with | zero => rfl | succ n => cases n <;> rfl
    rw [this] at h; exact absurd h (pad_nth n j v)
  | Sum.inl x :: l, 0, i, j, v, h => by cases h
  | Sum.inr (Sum.inr x) :: l, 0, i, j, v, h => by cases h
  | Sum.inr (Sum.inl x) :: l, 0, i, j, v, h => by cases h
  | Sum.inl x :: l, n + 1, i, 0, v, h => by
    have e : ent (n + 1) (Sum.inl x :: l) = some (Sum.inl x) :: ent n l := by cases n <;> rfl
    rw [e] at h
    cases h
    exact ⟨List.mem_cons_self, List.mem_cons_self⟩
  | Sum.inl x :: l, n + 1, i, j + 1, v, h => by
    have e : ent (n + 1) (Sum.inl x :: l) = some (Sum.inl x) :: ent n l := by cases n <;> rfl
    rw [e] at h
    obtain ⟨h1, h2⟩ := ent_mem hod l n (i + 1) j v h
    rw [show i + (j + 1) = i + 1 + j by omega]
    exact ⟨List.mem_cons_of_mem _ h1, List.mem_cons_of_mem _ h2⟩
  | Sum.inr (Sum.inr x) :: l, n + 1, i, 0, v, h => by
    have e : ent (n + 1) (Sum.inr (Sum.inr x) :: l) = some (Sum.inr (Sum.inr x)) :: ent n l := by cases n <;> rfl
    rw [e] at h
    cases h
    exact ⟨List.mem_cons_self, List.mem_cons_self⟩
  | Sum.inr (Sum.inr x) :: l, n + 1, i, j + 1, v, h => by
    have e : ent (n + 1) (Sum.inr (Sum.inr x) :: l) = some (Sum.inr (Sum.inr x)) :: ent n l := by cases n <;> rfl
    rw [e] at h
    obtain ⟨h1, h2⟩ := ent_mem hod l n (i + 1) j v h
    have hc : (conc ad od (Sum.inr (Sum.inr x))).category = 1 := cat_isLg hod rfl
    simp only [List.map_cons, lv_args]
    rw [if_neg (by rw [hc]; decide), show i + (j + 1) = i + 1 + j by omega]
    exact ⟨List.mem_cons_of_mem _ h1, List.mem_cons_of_mem _ h2⟩
  | Sum.inr (Sum.inl x) :: l, 1, i, 0, v, h => by
    cases h
    exact ⟨List.mem_cons_self, List.mem_cons_self⟩
  | Sum.inr (Sum.inl x) :: l, 1, i, j + 1, v, h => by
    have e : ent 1 (Sum.inr (Sum.inl x) :: l) = some (Sum.inr (Sum.inl x)) :: ent 0 l := rfl
    rw [e] at h
    have e0 : nth (ent 0 l) j = none := by
      cases l with
      | nil => rfl
      | cons a l => match a with
        | Sum.inl _ => rfl
        | Sum.inr (Sum.inl _) => rfl
        | Sum.inr (Sum.inr _) => rfl
    rw [show nth (some (Sum.inr (Sum.inl x)) :: ent 0 l) (j + 1) = nth (ent 0 l) j from rfl, e0] at h
    cases h
  | Sum.inr (Sum.inl x) :: l, n + 2, i, 0, v, h => by
    cases h
    exact ⟨List.mem_cons_self, List.mem_cons_self⟩
  | Sum.inr (Sum.inl x) :: l, n + 2, i, 1, v, h => by cases h
  | Sum.inr (Sum.inl x) :: l, n + 2, i, j + 2, v, h => by
    obtain ⟨h1, h2⟩ := ent_mem hod l n (i + 2) j v h
    rw [show i + (j + 2) = i + 2 + j by omega]
    exact ⟨List.mem_cons_of_mem _ h1, List.mem_cons_of_mem _ h2⟩
theorem lv_ent {ad : Nat → Int → Nat} {od : Nat → Value} (hod : ∀ j, od j = .null ∨ ∃ a, od j = .ref a) {as : List aV} {n : Nat} {ls : Array Slot} (h : lv_has ls n (lv_args 0 (as.map (conc ad od)))) : lv_has ls n (lvOf ad od 0 (ent n as)) := by
  refine ⟨h.1, h.2.1, fun q hq => h.2.2 q ?_⟩
  obtain ⟨j, v, h1, h2, h3⟩ := lv_mem.mp hq
  have := (ent_mem (ad := ad) hod as n 0 j v h2).1
  rw [← h1, ← h3] at this
  exact this
theorem ret_W {p : Program} {l : Launch} {e : Env} {R : Room} {s : State} {m : MethodId} {args : Array Value} {below : List Frame} {meth : Method} {c : Code} {D : va_G} {cA : Nat → ClassId} {ad : Nat → Int → Nat} {od : Nat → Value} {A : Nat → Prop} {q : aMT} {rv : Option aV} {μ' : aM} (hx : p.tables.exec = Jvm.exec) (hb : c.code = q.2.2.1) (hr : meth.sig.returnType = q.2.2.2.2.1) (hlocks : meth.locks = false) : Rg p l e R s m args below meth c 0 0 (MQ below (QQ D cA ad od A rv μ') args s 0 0 A) D cA ad od A q rv μ' := by
  intro hwM hwO pc H locs ls hP hS hI
  have hq : ∀ t : State, t.heap = H → s.WarmedH t.vm → QQ D cA ad od A rv μ' args s (.returned (rv.map (conc ad od))) t := fun t ht _ => ⟨⟨rfl, by rw [ht]; exact hP, hwM, hwO⟩, hS.F ht⟩
  match rv, hI with
  | none, hI => exact W.vret hx hb (by rw [hr, hI.2]) hq hS.2.2 hI.1 hlocks
  | some (Sum.inl x), hI =>
    have hr32 : r32 x := hwO _ rfl
    rcases hI.2 with e9 | ⟨e9, z⟩ | ⟨e9, z⟩ | ⟨e9, z⟩
    · exact W.zret (ty := .int) hx hb (by rw [hr, e9]) rfl hq hS.2.2 hI.1 hlocks
    · exact W.zret (ty := .boolean) hx hb (by rw [hr, e9]) (by rcases z with z | z <;> rw [z] <;> rfl) hq hS.2.2 hI.1 hlocks
    · refine W.zret (ty := .byte) (v := Int32.ofInt x) hx hb (by rw [hr, e9]) ?_ hq hS.2.2 hI.1 hlocks
      have h8 : w8 x = x := by unfold w8; omega
      rw [← h8, ← n_i2b hr32]
      exact pk_nb _
    · refine W.zret (ty := .char) (v := Int32.ofInt x) hx hb (by rw [hr, e9]) ?_ hq hS.2.2 hI.1 hlocks
      have h8 : x % 65536 = x := by omega
      rw [← h8, ← n_i2c]
      exact pk_nc _
  | some (Sum.inr (Sum.inl x)), hI => exact W.lret hx hb (by rw [hr, hI.2]) hq hS.2.2 hI.1 hlocks
  | some (Sum.inr (Sum.inr (Sum.inl z))), hI =>
    obtain ⟨h1, n, h2⟩ := hI
    exact W.aret (v := .ref (ad z.1 z.2)) hx hb (by rw [hr, h2]) (Or.inl ⟨n, rfl⟩) (Or.inr ⟨_, rfl⟩) hq hS.2.2 h1 hlocks
  | some (Sum.inr (Sum.inr (Sum.inr _))), hI => exact hI.elim
set_option maxHeartbeats 1000000 in
theorem calS {l : Launch} {g : aG} (hg : g.1 ≤ 3072) : ∀ d, CalS l g d := by
  intro d
  induction d with
  | zero => intro mid as μ rv μ' h; exact h.elim
  | succ d ih =>
    intro mid as μ rv μ' h q hq hne hwM hwS D cA ad od sz hod
    obtain ⟨hsl, h⟩ := h
    obtain ⟨w1, w2, w3, w4, w5, w6, w7, w8⟩ := okW_at hq hne
    have h9 := okM_all mid (mid_lt hq)
    unfold okM at h9
    rw [hq] at h9
    simp only [Bool.and_eq_true, decide_eq_true_eq, beq_iff_eq] at h9
    obtain ⟨⟨⟨⟨-, hml9⟩, -⟩, hown9⟩, -⟩ := h9
    refine Met.ofW (cc := q.2.2.1) (maxL := q.2.2.2.1) (ret := q.2.2.2.2.1) w5 rfl ?_
    intro p e s m args below meth c s₁ B hml hv
    obtain ⟨rfl, hsz, hP, hK, hD0, hF⟩ := hv
    have hx := B.exec
    have hb := B.bytes
    have hr := B.returns
    have hts : ∀ w ∈ TW, w.before (as.map (conc ad od)).toArray s = true := fun w hw => atoms_spec (ws := wsM q) B.pre w (List.mem_cons_of_mem _ hw)
    have hown : s.vm.findClass q.1 = some m.cls := by rw [hown9]; exact findClass_of_methodNamed B.named
    have hlocks := B.notSynchronized
    subst hsz
    have hD : ∀ μ', va_D (va_A (wsOf cA ad μ) s.heap.size) (wsOf cA ad μ') := fun μ' => wsD hD0.self
    have X : Ctx p (headSpec (wsM q) (rmD (d + 1))).room s m (as.map (conc ad od)).toArray c 0 0 g d mid D cA ad od (va_A (wsOf cA ad μ) s.heap.size) q :=
      ⟨hq, hx, hb, hml, hown, hts, hK, hF, hD, fun x h => Or.inr h, hod, Nat.le_refl _, by show 60 * d + 40 ≤ 60 * (d + 1); omega, Nat.le_refl _, Nat.le_refl _, hg⟩
    have hl := lv_entry (as.map (conc ad od)) (n := q.2.2.2.1) (by rw [sl_len hod, ← hml9]; exact hsl)
    rw [lg_entry_eq]
    generalize (lg_sl (as.map (conc ad od)) ++ List.replicate (q.2.2.2.1 - (lg_sl (as.map (conc ad od))).length) Slot.unset).toArray = ls at hl ⊢
    have hl := lv_ent hod hl
    rw [← hml9] at hl
    have go := sound_R (l := l) (e := e) (below := below) (meth := meth) (Z := MQ below (QQ D cA ad od (va_A (wsOf cA ad μ) s.heap.size) rv μ') (as.map (conc ad od)).toArray s 0 0 (va_A (wsOf cA ad μ) s.heap.size)) X ih h (fun r1 m1 z => by
      obtain ⟨rfl, rfl⟩ := z
      exact ret_W hx hb hr hlocks)
    exact go (fun j v hj => hwS v (ent_mem (ad := ad) hod as _ 0 j v hj).2) (fun v hv => by cases hv) hwM s.heap [] ls hP va_S.rf (by rw [← hml9]; exact hl)
