/-! The class: in line, and hearing. -/
theorem SL_last {cm : Int → Int} {y : Int} {l2 : List Int} : ∀ {l : List Int}, SL cm (l ++ y :: l2) → ∀ z ∈ l, cm z ≤ cm y
  | [], _, z, hz => by simp at hz
  | x :: l, h, z, hz => by
    rcases List.mem_cons.mp hz with e | e
    · have := h.1 y (by simp)
      rw [e]; omega
    · exact SL_last (l := l) h.2 z e
section
variable {g : aG} {d : Nat} {μ : aM} {Q : aQ} {p B t a : Int} {T : TDt}
theorem line_in {rg cm : Int → Int} {n : Int} (hn6 : 0 ≤ n ∧ n ≤ 6) (h0 : 0 ≤ p) (hp : p < n) (hr : 0 < rg p) (hs : SL cm (ordL rg cm p)) (hl : ∀ y ∈ ordL rg cm p, 0 ≤ y ∧ y < p) (hlen : ((ordL rg cm p).length : Int) ≤ p) : ∀ (k : Nat) (l1 l2 : List Int) (m : aM), l1.length = k → ordL rg cm p = l1 ++ l2 → (∀ y ∈ l2, cm p < cm y) → (∀ q, 0 ≤ q → q < n → m 23 0 q = cm q) → m 21 0 4 = (ordL rg cm p).length → arrIs (m 25 0) 0 l1 → arrIs (m 25 0) ((l1.length : Int) + 1) l2 → (∀ m', Fr [25, 21] m m' → m' 21 0 5 = m 21 0 5 → m' 21 0 4 = (ordL rg cm (p + 1)).length → arrIs (m' 25 0) 0 (ordL rg cm (p + 1)) → Rn g d m_Mo_line 7 [some (aR 21 0), some (aR 2 a), some (aI (p + 1)), none] [] m' Q) → Rn g d m_Mo_line 29 [some (aR 21 0), some (aR 2 a), some (aI p), some (aI k)] [] m Q := by
  have hnx : ordL rg cm (p + 1) = insC cm p (ordL rg cm p) := by
    unfold ordL; rw [fI_s h0, if_pos hr]
  intro k
  induction k with
  | zero =>
    intro l1 l2 m hk hl12 h2 hc h4 ha1 ha2 hQ
    have e1 : l1 = [] := List.length_eq_zero_iff.mp hk
    subst e1
    have hins : ordL rg cm (p + 1) = p :: l2 := by rw [hnx, hl12]; exact insC_split (l1 := []) (fun y hy => by simp at hy) h2
    refine B_Mo_line_29 (k1 := fun _ => ?_) (k2 := fun z => absurd z (by omega)) (k3 := fun z => absurd z (by omega)) (b10 := fun z => absurd z (by omega)) (b7 := fun z => absurd z (by omega))
    refine hQ _ (Fr.rf.up.up) ?_ ?_ ?_
    · rw [up_ne (by decide), up_other (by decide)]
    · rw [up_same, h4, hins, hl12]; simp
    · rw [up_k (by decide), up_row, hins]
      refine ⟨if_pos rfl, arr_pu (by simpa using ha2) (by left; show ((0 : Nat) : Int) < _; omega)⟩
  | succ k ih =>
    intro l1 l2 m hk hl12 h2 hc h4 ha1 ha2 hQ
    obtain ⟨l1', y, e1⟩ : ∃ l1' y, l1 = l1' ++ [y] := by
      rcases List.eq_nil_or_concat l1 with e | ⟨L, b, e⟩
      · subst e; simp at hk
      · exact ⟨L, b, by rw [e, List.concat_eq_append]⟩
    subst e1
    have hk' : l1'.length = k := by simpa using hk
    have hy : m 25 0 ((k : Nat) : Int) = y := by
      have := arr_last ha1
      rw [hk'] at this; rw [show ((k : Nat) : Int) = 0 + (k : Int) by omega]; exact this
    have hyl := hl y (by rw [hl12]; simp)
    have hkp : ((k : Int) + 1) ≤ p := by
      have := hlen; rw [hl12] at this; simp at this; omega
    have ek : (((k + 1 : Nat) : Int)) - 1 = (k : Int) := by omega
    have ec : m 23 0 y = cm y := hc y hyl.1 (by omega)
    have ecp : m 23 0 p = cm p := hc p h0 hp
    refine B_Mo_line_29 (k1 := fun z => absurd z (by omega)) (b6 := fun _ => by rw [ek, hy]; omega) (k2 := fun _ z => ?_) (k3 := fun _ z => ?_)
    · rw [ek, hy, ec, ecp] at z
      have hins : ordL rg cm (p + 1) = (l1' ++ [y]) ++ p :: l2 := by
        rw [hnx, hl12]
        refine insC_split (fun w hw => ?_) h2
        rcases List.mem_append.mp hw with hw | hw
        · have := SL_last (l := l1') (y := y) (l2 := l2) (by rw [hl12] at hs; simpa using hs) w hw
          omega
        · rw [List.mem_singleton.mp hw]; exact z
      refine hQ _ (Fr.rf.up.up) ?_ ?_ ?_
      · rw [up_ne (by decide), up_other (by decide)]
      · rw [up_same, h4, hins, hl12]; simp; omega
      · have hL : (((l1' ++ [y]).length : Nat) : Int) = ((k + 1 : Nat) : Int) := by rw [hk]
        rw [up_k (by decide), up_row, hins]
        refine arr_app.mpr ⟨arr_pu ha1 (by omega), ?_, ?_⟩
        · unfold pu; rw [if_pos (by omega)]
        · refine arr_pu ?_ (by omega)
          rw [show 0 + (((l1' ++ [y]).length : Nat) : Int) + 1 = (((l1' ++ [y]).length : Nat) : Int) + 1 by omega]; exact ha2
    · rw [ek, hy, ec, ecp] at z
      rw [ek, hy, show ((k + 1 : Nat) : Int) + (-1) = (k : Int) by omega]
      have hL : (((l1' ++ [y]).length : Nat) : Int) = ((k + 1 : Nat) : Int) := by rw [hk]
      refine ih l1' (y :: l2) _ hk' (by rw [hl12]; simp) (fun w hw => ?_) (fun q q0 q1 => by rw [up_other (by decide)]; exact hc q q0 q1) (by rw [up_other (by decide)]; exact h4) ?_ ?_ (fun m' hf h5 h4' ha => hQ m' ?_ ?_ h4' ha)
      · rcases List.mem_cons.mp hw with e | e
        · rw [e]; exact z
        · exact h2 w e
      · rw [up_row]; exact arr_pu (arr_app.mp ha1).1 (by omega)
      · rw [up_row]
        refine ⟨by unfold pu; rw [if_pos (by omega)], arr_pu ?_ (by omega)⟩
        rw [show (l1'.length : Int) + 1 + 1 = (((l1' ++ [y]).length : Nat) : Int) + 1 by omega]; exact ha2
      · exact (Fr.rf.up).tr hf
      · rw [h5, up_other (by decide)]
theorem c_Mo_line {rg cm : Int → Int} {n : Int} (hn : μ 2 a 0 = n) (hn6 : 0 ≤ n ∧ n ≤ 6) (hc : ∀ q, 0 ≤ q → q < n → μ 23 0 q = cm q) (hr : ∀ q, 0 ≤ q → q < n → μ 24 0 q = rg q) (h : ∀ μ', Fr [25, 21] μ μ' → μ' 21 0 5 = μ 21 0 5 → μ' 21 0 4 = (ordL rg cm n).length → arrIs (μ' 25 0) 0 (ordL rg cm n) → Q none μ') : Cal g (d + 1) m_Mo_line [aR 21 0, aR 2 a] μ Q := by
  refine T_Mo_line (k1 := loopR (n := n) (fun p (m : aM) => Rn g d m_Mo_line 7 [some (aR 21 0), some (aR 2 a), some (aI p), none] [] m Q) (fun p m => Fr [25, 21] μ m ∧ m 21 0 5 = μ 21 0 5 ∧ m 21 0 4 = (ordL rg cm p).length ∧ arrIs (m 25 0) 0 (ordL rg cm p)) ?_ ?_ 0 (up μ 21 0 4 0) (by omega) hn6.1 ⟨Fr.rf.up, up_ne (by decide), up_same, trivial⟩)
  · rintro p m h0 hp ⟨hf, h5, h4, ha⟩ ih
    have e2 : m 2 a 0 = n := by rw [hf 2 (by decide)]; exact hn
    have er : m 24 0 p = rg p := by rw [hf 24 (by decide)]; exact hr p h0 hp
    have hnx : ordL rg cm (p + 1) = if 0 < rg p then insC cm p (ordL rg cm p) else ordL rg cm p := by unfold ordL; rw [fI_s h0]
    refine B_Mo_line_7 (k1 := fun z => absurd z (by omega)) (k2 := fun _ z => ?_) (k3 := fun _ z => ?_)
    · refine ih m ⟨hf, h5, ?_, ?_⟩ <;> rw [hnx, if_neg (by omega)] <;> assumption
    · have hsp := ordL_spec (rg := rg) (cm := cm) (n := n) p h0 (by omega)
      rw [h4]
      refine line_in hn6 h0 hp (by omega) hsp.1 (fun y hy => ((hsp.2 y).mp hy).1) (ordL_len (n := n) p h0 (by omega)) (ordL rg cm p).length (ordL rg cm p) [] m rfl (by simp) (fun y hy => by simp at hy) (fun q q0 q1 => by rw [hf 23 (by decide)]; exact hc q q0 q1) h4 ha trivial (fun m' hf' h5' h4' ha' => ih m' ⟨hf.tr hf', h5'.trans h5, h4', ha'⟩)
  · rintro m ⟨hf, h5, h4, ha⟩
    have e2 : m 2 a 0 = n := by rw [hf 2 (by decide)]; exact hn
    refine B_Mo_line_7 (k1 := fun _ => h m hf h5 h4 ha) (k2 := fun z => absurd z (by omega)) (k3 := fun z => absurd z (by omega))
end
