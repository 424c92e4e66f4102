/-! THE HILLS: the log, copies -/
section HC
variable {Γ : Cfg} {l : Launch} {d b : Nat} {g : GG} {K : Ou → HP → Prop} {t p q k : Int} {V : VV}
theorem HRel.note {g' : GG} (h : HRel g t V) (hV : WF V) {what many weight L : Int} (hL : L = if V 6 < 60 then V 6 + 1 else 60) (e14 : g' t 14 = L)
    (er : g' (t + 1 + 7) ((L - 1) * 5) = V 4 ∧ g' (t + 1 + 7) ((L - 1) * 5 + 1) = p ∧ g' (t + 1 + 7) ((L - 1) * 5 + 2) = what ∧ g' (t + 1 + 7) ((L - 1) * 5 + 3) = many ∧ g' (t + 1 + 7) ((L - 1) * 5 + 4) = weight)
    (eo : ∀ i w, 0 ≤ i → i < L - 1 → 0 ≤ w → w < 5 → g' (t + 1 + 7) ((L - 1 - 1 - i) * 5 + w) = g (t + 1 + 7) ((V 6 - 1 - i) * 5 + w))
    (ee : ∀ a j, a ≠ t + 1 + 7 → ¬ (a = t ∧ j = 14) → g' a j = g a j) : HRel g' t (zNote V p what many weight) := by
  have hl := hV.1.2.2.2.2.2
  have z : ∀ j, 0 ≤ j → j < 186 → j ≠ 6 → zNote V p what many weight j = V j := by
    intro j j0 j1 j2
    unfold zNote
    rw [if_neg (by omega), if_neg (by omega), if_neg (by omega), if_neg (by omega), if_neg (by omega), if_neg (by omega), if_neg (by omega)]
  have z6 : zNote V p what many weight 6 = L := by
    rw [hL]
    rfl
  obtain ⟨h0, ⟨a1, a2, a3, a4, a5, a6, a7⟩, h2, h3, h4, h5⟩ := h
  refine ⟨h0, ⟨?_, ?_, ?_, ?_, ?_, ?_, ?_⟩, fun d d0 d1 => ?_, fun c p c0 c1 p0 p1 => ?_, fun p k p0 p1 k0 k1 => ?_, ?_⟩
  · rw [ee _ _ (by omega) (by omega), z _ (by omega) (by omega) (by omega), a1]
  · rw [ee _ _ (by omega) (by omega), z _ (by omega) (by omega) (by omega), a2]
  · rw [ee _ _ (by omega) (by omega), z _ (by omega) (by omega) (by omega), a3]
  · rw [ee _ _ (by omega) (by omega), z _ (by omega) (by omega) (by omega), a4]
  · rw [ee _ _ (by omega) (by omega), z _ (by omega) (by omega) (by omega), a5]
  · rw [ee _ _ (by omega) (by omega), z _ (by omega) (by omega) (by omega), a6]
  · rw [e14, z6]
  · rw [ee _ _ (by omega) (by omega), z _ (by omega) (by omega) (by omega), h2 d d0 d1]
  · rw [ee _ _ (by omega) (by omega), z _ (by omega) (by omega) (by omega), h3 c p c0 c1 p0 p1]
  · unfold zK zN at h4 ⊢
    rw [ee _ _ (by omega) (by omega), z _ (by omega) (by omega) (by omega), z _ (by omega) (by omega) (by omega), h4 p k p0 p1 k0 k1]
  · rw [z6]
    intro i w i0 i1 w0 w1
    by_cases ei : i = 0
    · subst ei
      obtain ⟨r0, r1, r2, r3, r4⟩ := er
      have ew : w = 0 ∨ w = 1 ∨ w = 2 ∨ w = 3 ∨ w = 4 := by omega
      rcases ew with rfl | rfl | rfl | rfl | rfl
      · rw [show (L - 1 - 0) * 5 + 0 = (L - 1) * 5 by omega, r0]; rfl
      · rw [show (L - 1 - 0) * 5 + 1 = (L - 1) * 5 + 1 by omega, r1]; rfl
      · rw [show (L - 1 - 0) * 5 + 2 = (L - 1) * 5 + 2 by omega, r2]; rfl
      · rw [show (L - 1 - 0) * 5 + 3 = (L - 1) * 5 + 3 by omega, r3]; rfl
      · rw [show (L - 1 - 0) * 5 + 4 = (L - 1) * 5 + 4 by omega, r4]; rfl
    · have e1 := eo (i - 1) w (by omega) (by omega) w0 w1
      rw [show (L - 1 - 1 - (i - 1)) * 5 + w = (L - 1 - i) * 5 + w by omega] at e1
      rw [e1, h5 (i - 1) w (by omega) (by omega) w0 w1]
      unfold zNote
      rw [if_neg (by omega), if_neg (by omega), if_neg (by omega), if_neg (by omega), if_neg (by omega), if_pos (by omega)]
      exact congrArg V (by omega)
theorem k_note (h : HRel g t V) (hV : WF V) {what many weight : Int} (kk : ∀ g', HRel g' t (zNote V p what many weight) → onlyH g g' t → K (.inl vU) (stt g')) : Ct Γ l (d + 1) b yX2_note mX2_note [vR t, vI p, vI what, vI many, vI weight] (stt g) K := by
  have hl := hV.1.2.2.2.2.2
  have l7 := h.hi.l7
  apply wpX2_note h.hi
  rw [h.lgd, wr_id (x := V 6) (by omega) (by omega), h.hou, l7, wr_id (x := (300 : Int) - 5) (by omega) (by omega)]
  refine ⟨fun hc => ?_, fun hc => ⟨by omega, ?_⟩⟩
  · intro g1 e1 g2 e2 g3 e3 g4 e4 g5 e5
    rw [puc_in (by omega) (by omega)] at e1 e2 e3 e4 e5
    have e14 : g5 t 14 = V 6 := by
      rw [e5, upd2_ne (by omega), e4, upd2_ne (by omega), e3, upd2_ne (by omega), e2, upd2_ne (by omega), e1, upd2_ne (by omega), h.lgd]
    refine kk _ (h.note hV (L := V 6 + 1) (by rw [if_pos (by omega)]) ?_ ⟨?_, ?_, ?_, ?_, ?_⟩ (fun i w i0 i1 w0 w1 => ?_) (fun a j ha hj => ?_)) ?_
    · rw [upd2_eq, e14]
    · rw [upd2_ne (by omega), show (V 6 + 1 - 1) * 5 = V 6 * 5 by omega, e5, upd2_nj (by omega), e4, upd2_nj (by omega), e3, upd2_nj (by omega), e2, upd2_nj (by omega), e1, upd2_eq]
    · rw [upd2_ne (by omega), show (V 6 + 1 - 1) * 5 + 1 = V 6 * 5 + 1 by omega, e5, upd2_nj (by omega), e4, upd2_nj (by omega), e3, upd2_nj (by omega), e2, upd2_eq]
    · rw [upd2_ne (by omega), show (V 6 + 1 - 1) * 5 + 2 = V 6 * 5 + 2 by omega, e5, upd2_nj (by omega), e4, upd2_nj (by omega), e3, upd2_eq]
    · rw [upd2_ne (by omega), show (V 6 + 1 - 1) * 5 + 3 = V 6 * 5 + 3 by omega, e5, upd2_nj (by omega), e4, upd2_eq]
    · rw [upd2_ne (by omega), show (V 6 + 1 - 1) * 5 + 4 = V 6 * 5 + 4 by omega, e5, upd2_eq]
    · rw [upd2_ne (by omega), show (V 6 + 1 - 1 - 1 - i) * 5 + w = (V 6 - 1 - i) * 5 + w by omega, e5, upd2_nj (by omega), e4, upd2_nj (by omega), e3, upd2_nj (by omega), e2, upd2_nj (by omega), e1, upd2_nj (by omega)]
    · by_cases ea : a = t
      · rw [upd2_nj (by omega), e5, upd2_ne ha, e4, upd2_ne ha, e3, upd2_ne ha, e2, upd2_ne ha, e1, upd2_ne ha]
      · rw [upd2_ne ea, e5, upd2_ne ha, e4, upd2_ne ha, e3, upd2_ne ha, e2, upd2_ne ha, e1, upd2_ne ha]
    · intro a j ha
      rw [upd2_ne (by omega), e5, upd2_ne (by omega), e4, upd2_ne (by omega), e3, upd2_ne (by omega), e2, upd2_ne (by omega), e1, upd2_ne (by omega)]
  · intro g6 e6 g7 e7 g8 e8 g9 e9 g10 e10 g11 e11
    have h60 : V 6 = 60 := by omega
    have c6 : ∀ a j, a ≠ t + 1 + 7 → g6 a j = g a j := by
      intro a j ha
      rw [e6]
      exact if_neg (fun z => ha z.1)
    have d6 : ∀ j, 0 ≤ j → j < 295 → g6 (t + 1 + 7) j = g (t + 1 + 7) (5 + j) := by
      intro j j0 j1
      rw [e6]
      unfold cpy
      rw [if_pos ⟨rfl, j0, by omega⟩, show (5 : Int) + (j - 0) = 5 + j by omega]
    have f14 : g6 t 14 = 60 := by rw [c6 _ _ (by omega), h.lgd, h60]
    have f11 : (upd2 g6 t 14 (g6 t 14 - 1)) t 11 = V 4 := by rw [upd2_nj (by decide), c6 _ _ (by omega), h.hou]
    have f14' : (upd2 g6 t 14 (g6 t 14 - 1)) t 14 = 59 := by rw [upd2_eq, f14]; rfl
    rw [f14', f11, puc_in (by omega) (by omega)] at e7
    rw [f14', puc_in (by omega) (by omega)] at e8 e9 e10 e11
    have e14 : g11 t 14 = 59 := by
      rw [e11, upd2_ne (by omega), e10, upd2_ne (by omega), e9, upd2_ne (by omega), e8, upd2_ne (by omega), e7, upd2_ne (by omega), upd2_eq, f14]; rfl
    refine kk _ (h.note hV (L := 60) (by rw [if_neg (by omega)]) ?_ ⟨?_, ?_, ?_, ?_, ?_⟩ (fun i w i0 i1 w0 w1 => ?_) (fun a j ha hj => ?_)) ?_
    · rw [upd2_eq, e14]; rfl
    · rw [upd2_ne (by omega), e11, upd2_nj (by omega), e10, upd2_nj (by omega), e9, upd2_nj (by omega), e8, upd2_nj (by omega), e7]; exact upd2_eq
    · rw [upd2_ne (by omega), e11, upd2_nj (by omega), e10, upd2_nj (by omega), e9, upd2_nj (by omega), e8]; exact upd2_eq
    · rw [upd2_ne (by omega), e11, upd2_nj (by omega), e10, upd2_nj (by omega), e9]; exact upd2_eq
    · rw [upd2_ne (by omega), e11, upd2_nj (by omega), e10]; exact upd2_eq
    · rw [upd2_ne (by omega), e11]; exact upd2_eq
    · rw [upd2_ne (by omega), e11, upd2_nj (by omega), e10, upd2_nj (by omega), e9, upd2_nj (by omega), e8, upd2_nj (by omega), e7, upd2_nj (by omega), upd2_ne (by omega), d6 _ (by omega) (by omega), h60]
      exact congrArg _ (by omega)
    · by_cases ea : a = t
      · rw [upd2_nj (by omega), e11, upd2_ne ha, e10, upd2_ne ha, e9, upd2_ne ha, e8, upd2_ne ha, e7, upd2_ne ha, upd2_nj (by omega), c6 _ _ ha]
      · rw [upd2_ne ea, e11, upd2_ne ha, e10, upd2_ne ha, e9, upd2_ne ha, e8, upd2_ne ha, e7, upd2_ne ha, upd2_ne ea, c6 _ _ ha]
    · intro a j ha
      rw [upd2_ne (by omega), e11, upd2_ne (by omega), e10, upd2_ne (by omega), e9, upd2_ne (by omega), e8, upd2_ne (by omega), e7, upd2_ne (by omega), upd2_ne (by omega), c6 _ _ (by omega)]
/-- so many rows of a copy are done -/
def PC (g g' : GG) (t t1 c : Int) : Prop := (∀ a j, (a < t + 1 ∨ t + 1 + c ≤ a) → g' a j = g a j) ∧ ∀ c' j, 0 ≤ c' → c' < c → 0 ≤ j → j < ln (t + 1 + c') → g' (t + 1 + c') j = g (t1 + 1 + c') j
theorem PC.step {g' : GG} {t1 c : Int} (h : PC g g' t t1 c) (ha : t + 8 < t1 ∨ t1 + 8 < t) (c0 : 0 ≤ c) (c1 : c ≤ 7) : PC g (cpy g' (t1 + 1 + c) (t + 1 + c) 0 0 (ln (t + 1 + c))) t t1 (c + 1) := by
  refine ⟨fun a j hj => ?_, fun c' j a0 a1 j0 j1 => ?_⟩
  · unfold cpy
    rw [if_neg (by omega), h.1 a j (by omega)]
  · by_cases e : c' = c
    · subst e
      unfold cpy
      rw [if_pos ⟨rfl, j0, by omega⟩, show (0 : Int) + (j - 0) = j by omega, h.1 _ _ (by omega)]
    · unfold cpy
      rw [if_neg (by omega), h.2 c' j a0 (by omega) j0 j1]
theorem HI.apart {t1 : Int} (h : HI t) (h1 : HI t1) (hn : t ≠ t1) : t + 8 < t1 ∨ t1 + 8 < t := by
  have e := HI.all0 (P := fun t => ([8, 17, 26, 45, 54, 63, 72, 81, 90, 99, 108, 117, 126, 135, 144] : List Int).all fun t1 => decide (t = t1 ∨ t + 8 < t1 ∨ t1 + 8 < t)) (by decide +kernel) h
  have e1 := of_decide_eq_true (HI.all0 e h1)
  rcases e1 with e1 | e1
  · exact absurd e1 hn
  · exact e1
theorem k_copy {t1 : Int} (ht : HI t) (h : HRel g t1 V) (hV : WF V) (hn : t ≠ t1) (kk : ∀ g', HRel g' t V → onlyH g g' t → K (.inl vU) (stt g')) : Ct Γ l (d + 1) b yX2_copy mX2_copy [vR t, vR t1] (stt g) K := by
  have hl := hV.1.2.2.2.2.2
  have ha := ht.apart h.hi hn
  apply wpX2_copy ht h.hi
  have q0 := ht.l0; have q1 := ht.l1; have q2 := ht.l2; have q3 := ht.l3; have q4 := ht.l4; have q5 := ht.l5; have q6 := ht.l6; have q7 := ht.l7
  have u0 := h.hi.l0; have u1 := h.hi.l1; have u2 := h.hi.l2; have u3 := h.hi.l3; have u4 := h.hi.l4; have u5 := h.hi.l5; have u6 := h.hi.l6; have u7 := h.hi.l7
  have p0 : PC g g t t1 0 := ⟨fun _ _ _ => rfl, fun c' j a0 a1 => absurd a1 (by omega)⟩
  refine ⟨by omega, fun g1 e1 => ⟨by omega, fun g2 e2 => ⟨by omega, fun g3 e3 => ⟨by omega, fun g4 e4 => ⟨by omega, fun g5 e5 => ⟨by omega, fun g6 e6 => ⟨by omega, fun g7 e7 => ⟨by omega, fun g8 e8 g9 e9 g10 e10 g11 e11 => ?_⟩⟩⟩⟩⟩⟩⟩⟩
  have p1 : PC g g1 t t1 1 := by rw [e1]; exact p0.step ha (by decide) (by decide)
  have p2 : PC g g2 t t1 2 := by rw [e2]; exact p1.step ha (by decide) (by decide)
  have p3 : PC g g3 t t1 3 := by rw [e3]; exact p2.step ha (by decide) (by decide)
  have p4 : PC g g4 t t1 4 := by rw [e4]; exact p3.step ha (by decide) (by decide)
  have p5 : PC g g5 t t1 5 := by rw [e5]; exact p4.step ha (by decide) (by decide)
  have p6 : PC g g6 t t1 6 := by rw [e6]; exact p5.step ha (by decide) (by decide)
  have p7 : PC g g7 t t1 7 := by rw [e7]; exact p6.step ha (by decide) (by decide)
  have p8 : PC g g8 t t1 8 := by rw [e8]; exact p7.step ha (by decide) (by decide)
  have n1 : ∀ f, g8 t1 f = g t1 f := fun f => p8.1 t1 f (by omega)
  have f9 : ∀ f, g9 t1 f = g t1 f := fun f => by rw [e9, upd2_ne (by omega), upd2_ne (by omega), n1]
  have f10 : ∀ f, g10 t1 f = g t1 f := fun f => by rw [e10, upd2_ne (by omega), upd2_ne (by omega), f9]
  have f11 : ∀ f, g11 t1 f = g t1 f := fun f => by rw [e11, upd2_ne (by omega), upd2_ne (by omega), f10]
  rw [upd2_ne (by omega)] at e9 e10 e11
  rw [n1, n1] at e9
  rw [f9, f9] at e10
  rw [f10, f10] at e11
  rw [f11]
  have o1 : ∀ a j, a ≠ t → (upd2 g11 t 14 (g t1 14)) a j = g8 a j := fun a j h9 => by
    rw [upd2_ne h9, e11, upd2_ne h9, upd2_ne h9, e10, upd2_ne h9, upd2_ne h9, e9, upd2_ne h9, upd2_ne h9]
  refine kk _ ?_ ?_
  · obtain ⟨h0, ⟨a1, a2, a3, a4, a5, a6, a7⟩, h2, h3, h4, h5⟩ := h
    refine ⟨ht, ⟨?_, ?_, ?_, ?_, ?_, ?_, ?_⟩, fun d d0 d1 => ?_, fun c p c0 c1 p0 p1 => ?_, fun p k p0 p1 k0 k1 => ?_, fun i w i0 i1 w0 w1 => ?_⟩
    · rw [upd2_nj (by decide), e11, upd2_nj (by decide), upd2_nj (by decide), e10, upd2_nj (by decide), upd2_nj (by decide), e9, upd2_nj (by decide), upd2_eq, a1]
    · rw [upd2_nj (by decide), e11, upd2_nj (by decide), upd2_nj (by decide), e10, upd2_nj (by decide), upd2_nj (by decide), e9, upd2_eq, a2]
    · rw [upd2_nj (by decide), e11, upd2_nj (by decide), upd2_nj (by decide), e10, upd2_nj (by decide), upd2_eq, a3]
    · rw [upd2_nj (by decide), e11, upd2_nj (by decide), upd2_nj (by decide), e10, upd2_eq, a4]
    · rw [upd2_nj (by decide), e11, upd2_nj (by decide), upd2_eq, a5]
    · rw [upd2_nj (by decide), e11, upd2_eq, a6]
    · rw [upd2_eq, a7]
    · rw [o1 _ _ (by omega), p8.2 6 d (by decide) (by decide) d0 (by omega), h2 d d0 d1]
    · have hc : c = 1 ∨ c = 2 ∨ c = 3 ∨ c = 4 ∨ c = 5 := by omega
      rw [o1 _ _ (by omega), p8.2 c p (by omega) (by omega) p0 (by rcases hc with rfl | rfl | rfl | rfl | rfl <;> omega), h3 c p c0 c1 p0 p1]
    · rw [o1 _ _ (by omega), p8.2 0 _ (by decide) (by decide) (by omega) (by omega), h4 p k p0 p1 k0 k1]
    · rw [o1 _ _ (by omega), p8.2 7 _ (by decide) (by decide) (by omega) (by omega), h5 i w i0 i1 w0 w1]
  · intro a j h9
    rw [o1 _ _ (by omega), p8.1 a j (by omega)]
/-- a word is written -/
theorem HRel.wrd (h : HRel g t V) {a n : Int} (p0 : 0 ≤ p) (p1 : p < 6) (k0 : 0 ≤ k) (k1 : k < 12) (hl : V 6 ≤ 60) : HRel (upd2 g (t + 1 + 0) (p * 12 + k) (10 * a + n)) t (upV (upV V (12 + 29 * p + (5 + 2 * k)) a) (12 + 29 * p + (5 + 2 * k + 1)) n) := by
  obtain ⟨h0, ⟨a1, a2, a3, a4, a5, a6, a7⟩, h2, h3, h4, h5⟩ := h
  refine ⟨h0, ⟨?_, ?_, ?_, ?_, ?_, ?_, ?_⟩, fun d' d0 d1 => ?_, fun c' p' c0' c1' p0' p1' => ?_, fun p' k' p0' p1' k0' k1' => ?_, ?_⟩
  · rw [upd2_ne (by omega), upV_ne (by omega), upV_ne (by omega), a1]
  · rw [upd2_ne (by omega), upV_ne (by omega), upV_ne (by omega), a2]
  · rw [upd2_ne (by omega), upV_ne (by omega), upV_ne (by omega), a3]
  · rw [upd2_ne (by omega), upV_ne (by omega), upV_ne (by omega), a4]
  · rw [upd2_ne (by omega), upV_ne (by omega), upV_ne (by omega), a5]
  · rw [upd2_ne (by omega), upV_ne (by omega), upV_ne (by omega), a6]
  · rw [upd2_ne (by omega), upV_ne (by omega), upV_ne (by omega), a7]
  · rw [upd2_ne (by omega), upV_ne (by omega), upV_ne (by omega), h2 d' d0 d1]
  · have h9 : p' = p ∨ p' + 1 ≤ p ∨ p + 1 ≤ p' := by omega
    rw [upd2_ne (by omega), upV_ne (by omega), upV_ne (by omega), h3 c' p' c0' c1' p0' p1']
  · unfold zK zN at h4 ⊢
    have h9 : p' = p ∨ p' + 1 ≤ p ∨ p + 1 ≤ p' := by omega
    by_cases e : p' = p ∧ k' = k
    · obtain ⟨rfl, rfl⟩ := e
      rw [upd2_eq, upV_eq, upV_ne (by omega), upV_eq]
    · rw [upd2_nj (by omega), upV_ne (by omega), upV_ne (by omega), upV_ne (by omega), upV_ne (by omega), h4 p' k' p0' p1' k0' k1']
  · rw [upV_ne (by omega), upV_ne (by omega)]
    intro i w i0 i1 w0 w1
    rw [upd2_ne (by omega), upV_ne (by omega), upV_ne (by omega), h5 i w i0 i1 w0 w1]
theorem k_copyOath (h : HRel g t V) (hV : WF V) (p0 : 0 ≤ p) (p1 : p < 6) (q0 : 0 ≤ q) (q1 : q < 6) (hpq : p ≠ q) (kk : ∀ g', HRel g' t (cpO V p q) → onlyH g g' t → K (.inl vU) (stt g')) : Ct Γ l (d + 2) b yX2_copyOath mX2_copyOath [vR t, vI p, vI q] (stt g) K := by
  have hl := hV.1.2.2.2.2.2
  have hi9 := h.hi
  apply wpX2_copyOath h.hi
  refine up_loop (P := fun n => ∀ g', HRel g' t (cpW V p q n) → onlyH g g' t → AW Γ l mX2_copyOath (d + 2) b 2 [vR t, vI p, vI q, vI n] [] (stt g') K) (N := 12) (fun g' hg ho => ?_) (fun n hn hi g' hg ho => ?_) 0 (Nat.zero_le _) g ?_ (fun _ _ _ => rfl)
  · apply wpX2_copyOath_2 hi9
    rw [wr_id (x := ((12 : Nat) : Int)) (by decide) (by decide)]
    refine ⟨fun _ g1 e1 => ?_, fun hc => absurd (show (12 : Int) ≤ ((12 : Nat) : Int) by decide) hc⟩
    have e2 : zL (cpW V p q ((12 : Nat) : Int)) q = zL V q := by
      unfold zL cpW
      rw [if_neg (by omega)]
    have e6 : (cpW V p q ((12 : Nat) : Int)) 6 = V 6 := by
      unfold cpW
      rw [if_neg (by omega)]
    rw [hg.cL q0 q1, e2, puc_in p0 (by rw [hi9.l1]; exact p1)] at e1
    refine kk g1 ?_ ?_
    · rw [e1]
      exact hg.arr (c := 1) (by decide) (by decide) p0 p1 (by rw [e6]; exact hl.2)
    · intro a j h9
      rw [e1, upd2_ne (by omega), ho a j h9]
  · apply wpX2_copyOath_2 hi9
    rw [wr_id (x := (n : Int)) (by omega) (by omega)]
    refine ⟨fun hc => absurd hc (by omega), fun _ g1 e1 => ?_⟩
    have e6 : (cpW V p q n) 6 = V 6 := by
      unfold cpW
      rw [if_neg (by omega)]
    have ek : zK (cpW V p q n) q n = zK V q n := by
      unfold zK cpW
      rw [if_neg (by omega)]
    have en : zN (cpW V p q n) q n = zN V q n := by
      unfold zN cpW
      rw [if_neg (by omega)]
    rw [hg.cW q0 q1 (by omega) (by omega), puc_in (by omega) (by rw [hi9.l0]; omega), ek, en] at e1
    refine hi g1 ?_ ?_
    · have h8 := hg.wrd (k := n) (a := zK V q n) (n := zN V q n) p0 p1 (by omega) (by omega) (by rw [e6]; exact hl.2)
      rw [← e1] at h8
      have e8 : upV (upV (cpW V p q n) (12 + 29 * p + (5 + 2 * n)) (zK V q n)) (12 + 29 * p + (5 + 2 * n + 1)) (zN V q n) = cpW V p q ((n + 1 : Nat) : Int) := by
        funext j
        by_cases j1 : j = 12 + 29 * p + (5 + 2 * (n : Int) + 1)
        · subst j1
          rw [upV_eq]
          unfold cpW zN
          rw [if_pos (by omega)]
          exact congrArg V (by omega)
        · rw [upV_ne j1]
          by_cases j2 : j = 12 + 29 * p + (5 + 2 * (n : Int))
          · subst j2
            rw [upV_eq]
            unfold cpW zK
            rw [if_pos (by omega)]
            exact congrArg V (by omega)
          · rw [upV_ne j2]
            unfold cpW
            by_cases j3 : 12 + 29 * p + 5 ≤ j ∧ j < 12 + 29 * p + 5 + 2 * (n : Int)
            · rw [if_pos j3, if_pos (by omega)]
            · rw [if_neg j3, if_neg (by omega)]
      rw [e8] at h8
      exact h8
    · intro a j h9
      rw [e1, upd2_ne (by omega), ho a j h9]
  · have e0 : cpW V p q ((0 : Nat) : Int) = V := by
      funext j
      unfold cpW
      rw [if_neg (by omega)]
    rw [e0]
    exact h
end HC
