/-! A new object and its constructor, in one row. -/
set_option maxRecDepth 100000
theorem nd_of : ∀ {l : List Nat}, l.Nodup → va_nd l = true
  | [], _ => rfl
  | a :: l, h => by
    rw [List.nodup_cons] at h
    simp only [va_nd, Bool.and_eq_true, decide_eq_true_eq]
    exact ⟨h.1, nd_of h.2⟩
theorem va_D_iff {A : Nat → Prop} {ws : va_W} : va_D A ws ↔ (ws.map Prod.fst).Nodup ∧ ∀ q ∈ ws, A q.1 := by
  constructor
  · intro h
    refine ⟨?_, fun q hq => ?_⟩
    · rw [List.Nodup, List.pairwise_iff_getElem]
      intro i j hi hj hij h2
      rw [List.length_map] at hi hj
      rw [List.getElem_map, List.getElem_map] at h2
      have := h.1 i j _ _ (List.getElem?_eq_getElem hi) (List.getElem?_eq_getElem hj) h2
      omega
    · obtain ⟨k, hk⟩ := List.getElem?_of_mem hq
      exact h.2 k q hk
  · intro h
    refine ⟨fun i j p q hp hq h2 => ?_, fun k q hk => h.2 q (List.mem_of_getElem? hk)⟩
    obtain ⟨hi, hpi⟩ := List.getElem?_eq_some_iff.mp hp
    obtain ⟨hj, hqj⟩ := List.getElem?_eq_some_iff.mp hq
    have h1 := h.1
    rw [List.Nodup, List.pairwise_iff_getElem] at h1
    rcases Nat.lt_trichotomy i j with z | z | z
    · refine absurd ?_ (h1 i j (by rw [List.length_map]; exact hi) (by rw [List.length_map]; exact hj) z)
      rw [List.getElem_map, List.getElem_map, hpi, hqj]; exact h2
    · exact z
    · refine absurd ?_ (h1 j i (by rw [List.length_map]; exact hj) (by rw [List.length_map]; exact hi) z)
      rw [List.getElem_map, List.getElem_map, hpi, hqj]; exact h2.symm
theorem va_P.mem {D : va_G} {cl : List vw_C} {ws ws' : va_W} {H : Heap} (h : va_P D cl ws H) (hm : ∀ q ∈ ws', q ∈ ws) : va_P D cl ws' H := fun k q hk => by
  obtain ⟨i, hi⟩ := List.getElem?_of_mem (hm q (List.mem_of_getElem? hk))
  exact h i q hi
theorem va_D.perm {A : Nat → Prop} {ws ws' : va_W} (h : va_D A ws) (hp : ws.Perm ws') : va_D A ws' := by
  rw [va_D_iff] at h ⊢
  exact ⟨(hp.map Prod.fst).nodup_iff.mp h.1, fun q hq => h.2 q (hp.mem_iff.mpr hq)⟩
theorem mv_perm {α : Type} {x y : α} {as : List α} : (x :: (as ++ [y])).Perm (x :: y :: as) := List.Perm.cons x (List.perm_append_comm (l₁ := as) (l₂ := [y]))
theorem w_mv {D : va_G} {cl : List vw_C} {H : Heap} {A : Nat → Prop} {x y : Nat × va_E} {as : va_W} (hP : va_P D cl (x :: (as ++ [y])) H) (hD : va_D A (x :: (as ++ [y]))) : va_P D cl (x :: y :: as) H ∧ va_D A (x :: y :: as) :=
  ⟨hP.mem (fun q hq => mv_perm.mem_iff.mpr hq), hD.perm mv_perm⟩
theorem w_join {A0 : Nat → Prop} {D : va_G} {cl : List vw_C} {ws w1 : va_W} {x : Nat × va_E} {H H1 : Heap} (hP : va_P D cl (ws ++ [x]) H) (hD : va_D A0 (ws ++ [x])) (hk : ∀ q : Nat, q < H.size → ¬ va_A [x] H.size q → H1[q]? = H[q]?) (hF : ∀ q, va_A [x] H.size q → A0 q) (hP1 : va_P D cl w1 H1) (hD1 : va_D (va_A [x] H.size) w1) : va_P D cl (ws ++ w1) H1 ∧ va_D A0 (ws ++ w1) := by
  refine va_join (wc := [x]) (wr := ws) hP hD [ws.length] (List.range ws.length) ?_ ?_ (nd_of List.nodup_range) ?_ hk hF hP1 hD1
  · simp
  · apply List.ext_getElem?
    intro i
    rcases Nat.lt_or_ge i ws.length with h | h
    · simp [List.getElem?_map, h, List.getElem?_append_left h]
    · simp [List.getElem?_map, h]
  · intro i hi
    have := List.mem_range.mp hi
    simp; omega
section
variable {p : Program} {l : Launch} {e : Env} {R : Room} {s : State} {m : MethodId} {args : Array Value} {below : List Frame} {meth : Method} {c : Code} {H H0 : Heap} {locs : List Loc} {cells slots : Nat} {Q : State → Prop}
variable {cc : ByteArray} {pc nL : Nat} {ls : Array Slot} {rest : List Value} {D : va_G} {cA : Nat → ClassId} {A : Nat → Prop} {ws : va_W}
theorem n_new {S : Type} {own C : String} {T : u_T} {N ci index idx2 maxL mc ms n pc3 : Nat} {bytes : ByteArray} {y : MethodName} {rm : Room} {ck : Nat → S → va_W} {G : State → Prop} {fs As : List Value}
    (X : CallFix p m c cc nL s args TW own) (hls : ls.size = nL) (hK : va_K D vwCl (tysOf cA) s) (hA : ∀ q, H0.size ≤ q → A q)
    (hc : vwCl[ci]? = some (C, T, N)) (ty : Nat → FieldType) (hty : ∀ k, k < N → parseFieldDescriptor (T k).2.2.1 = some (ty k)) (hcl : Cond.classLink own index C ∈ TW) (hinst : Cond.instantiable C N ∈ TW) (hini : Cond.initialized C ∈ TW) (hfs : ∀ j, j < N → defaultValue (ty j) = vp_V fs j)
    (hM : ∀ q sz, Met l y (.code y bytes maxL none :: TW) rm (va_Pc (.ref q :: As) (fun U => U.heap.size = sz ∧ va_P D vwCl [(q, .inr (ci, fs))] U.heap ∧ G U ∧ va_D (fun _ => True) [(q, .inr (ci, fs))])) (va_Qv (fun _ : S => True) (fun u t => va_P D vwCl (ck q u) t.heap ∧ va_K D vwCl (tysOf cA) t ∧ va_D (va_A [(q, .inr (ci, fs))] sz) (ck q u)) (va_A [(q, .inr (ci, fs))] sz)) mc ms (va_A [(q, .inr (ci, fs))] sz))
    (hGs : ∀ U : State, s.WarmedH U.vm → G U) (hGc : ∀ a U g mk, G U → G (U.calling g mk a))
    (hcode : Cond.code y bytes maxL none ∈ TW) (hrc : rm.cells = mc) (hrs : rm.slots = ms) (hicls : y.cls = C) (hinm : Cond.instanceMethod y ∈ TW) (hy1 : y.name = "<init>") (hgo : Cond.methodLink own idx2 y ∈ TW ∨ ∃ host, va_Nw (.methodLinkNest own idx2 y host) s)
    (hd : y.cls ≠ "java/lang/invoke/MethodHandle" ∧ y.cls ≠ "java/lang/invoke/VarHandle" ∧ (parseMethodDescriptor y.desc).map (fun d => d.parameters.length) = some n) (hn : As.length = n) (hR : rm.frames + 1 ≤ R.frames ∧ 8 + (maxL + 11) + rm.locals ≤ R.locals) (hcat : ∀ q : Nat, ((Value.ref q :: rest).map fun v => v.category).sum ≤ 8)
    (hP : va_P D vwCl ws H) (hD : va_D A ws) (hS : va_S A H0 H locs) (hcells : cells + 1 + mc ≤ R.cells) (hslots : slots + N + ms ≤ R.slots)
    (d1 : decode cc pc = .ok (.new index, 3)) (d2 : decode cc (pc + 3) = .ok (.dup, 1))
    (hpush : ∀ (st : List Value) (H : Heap) (locs : List Loc) (cells slots : Nat), W p l e R s m args below meth c H locs cells slots Q (F0 m pc3 ls (As.reverse ++ st)) → W p l e R s m args below meth c H locs cells slots Q (F0 m (pc + 4) ls st))
    (d3 : decode cc pc3 = .ok (.invokespecial idx2, 3))
    (kk : ∀ (q : Nat) (u : S) (H : Heap) (locs : List Loc), va_P D vwCl (ws ++ ck q u) H → va_D A (ws ++ ck q u) → va_S A H0 H locs → W p l e R s m args below meth c H locs (cells + 1 + mc) (slots + N + ms) Q (F0 m (pc3 + 3) ls (.ref q :: rest))) : W p l e R s m args below meth c H locs cells slots Q (F0 m pc ls rest) := by
  have X0 := X
  obtain ⟨hx, hb, hml, hown, hts⟩ := X
  refine va_new (ci := ci) (fs := fs) (C := C) (T := T) (N := N) hx hb hts (hin_at hc) ty hty hown (hts _ hcl) (hts _ hinst) (hts _ hini) hK hP hD hS hA hc hfs (by omega) (by omega) d1 (fun q H hP hD hS => ?_)
  refine lv_dup hx hb d2 rfl ?_
  refine hpush _ _ _ _ _ ?_
  have hP0 : va_P D vwCl [(q, .inr (ci, fs))] H := hP.mem (fun z hz => List.mem_append_right _ hz)
  have hD0 : va_D (fun _ => True) [(q, (.inr (ci, fs) : va_E))] := va_D_iff.mpr ⟨by simp, fun _ _ => trivial⟩
  have hFc : ∀ z, va_A [(q, (.inr (ci, fs) : va_E))] H.size z → A z := by
    intro z hz
    rcases hz with ⟨k, e, h⟩ | h
    · have h1 := List.mem_of_getElem? h
      have h2 : (z, e) ∈ ws ++ [(q, (.inr (ci, fs) : va_E))] := List.mem_append_right _ h1
      exact (va_D_iff.mp hD).2 _ h2
    · exact hA z (Nat.le_trans hS.1 h)
  have hG : GoodIn TW (Cond.code y bytes maxL none :: TW) := gi (fun w hw => by
    rcases List.mem_cons.mp hw with h | h
    · rw [h]; exact hcode
    · exact h)
  have hini' : Cond.initialized y.cls ∈ TW := by rw [hicls]; exact hini
  have hf : cells + 1 + mc ≤ R.cells ∧ slots + N + ms ≤ R.slots := ⟨hcells, hslots⟩
  have hpre : PreS s H (va_Pc (.ref q :: As) (fun U => U.heap.size = H.size ∧ va_P D vwCl [(q, .inr (ci, fs))] U.heap ∧ G U ∧ va_D (fun _ => True) [(q, .inr (ci, fs))])) (.ref q :: As) :=
    ⟨fun a U g mk z => by obtain ⟨q0, q1, qP, qK, qD⟩ := z; exact ⟨q0, q1, qP, hGc a U g mk qK, qD⟩, fun U hU hW => ⟨rfl, by rw [hU], by rw [hU]; exact hP0, hGs U hW, hD0⟩⟩
  have hrun : va_Run p l e R s m args below meth c H locs (cells + 1) (slots + N) mc ms (F0 m pc3 ls (As.reverse ++ .ref q :: .ref q :: rest)) (.ref q :: rest) (va_Qv (fun _ : S => True) (fun u t => va_P D vwCl (ck q u) t.heap ∧ va_K D vwCl (tysOf cA) t ∧ va_D (va_A [(q, .inr (ci, fs))] H.size) (ck q u)) (va_A [(q, .inr (ci, fs))] H.size) (Value.ref q :: As).toArray) (va_A [(q, .inr (ci, fs))] H.size) := by
    rcases hgo with h | ⟨host, h⟩
    · exact va_runI (As := As) (rest := .ref q :: rest) X0 (hM q H.size) (cwI n hts hG rfl hrc hrs (hts _ hini') (hts _ h) (hts _ hinm) hy1 hd hR) hpre rfl hn hls rfl (lv_room (hcat q)) d3 hf
    · exact va_runIN (As := As) (rest := .ref q :: rest) X0 (hM q H.size) ⟨va_cnB n hts hG rfl hrc hrs h (hts _ hini') hd hR, hy1, hts _ hinm⟩ hpre rfl hn hls rfl (lv_room (hcat q)) d3 hf
  refine va_callv hrun hS (fun z _ h => hFc z h) hFc (fun u t H1 locs ht hvm h5 hB hz1 hk1 hS => ?_)
  obtain ⟨hP1, hK1, hD1⟩ := hB
  rw [ht] at hP1
  obtain ⟨hP, hD⟩ := w_join hP hD hk1 hFc hP1 hD1
  exact kk q u H1 locs hP hD hS
end
