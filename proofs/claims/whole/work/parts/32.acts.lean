/-! ACTS: what they do to the reference's row; what stays so -/
theorem dpf_cg {f f' : Int → Int × Int} {n : Nat} (h : ∀ k : Nat, k < n → f k = f' k) : dpf f n = dpf f' n := fd_ext fun x k hk => by rw [h k hk]
def pnS (V : VV) (p : Int) : Prop := (0 ≤ zL V p ∧ zL V p ≤ 12) ∧ (0 ≤ zB V p ∧ zB V p ≤ 9) ∧ (0 ≤ zG V p ∧ zG V p ≤ 9) ∧ (0 ≤ zS V p ∧ zS V p ≤ 2) ∧ (0 ≤ zC V p ∧ zC V p ≤ zL V p) ∧ (p < V 0 → 1 ≤ zL V p ∧ 1 ≤ zB V p)
def hdS (V : VV) : Prop := (0 ≤ V 0 ∧ V 0 ≤ 6) ∧ (0 ≤ V 1 ∧ V 1 ≤ 12) ∧ (0 ≤ V 3 ∧ V 3 ≤ 100) ∧ (0 ≤ V 4 ∧ V 4 ≤ 9999) ∧ (0 ≤ V 5 ∧ V 5 ≤ 9999) ∧ (0 ≤ V 6 ∧ V 6 ≤ 60)
theorem WF.of {V V' : VV} (h : WF V) (h1 : hdS V') (h2 : ∀ i, 0 ≤ i → i < 4 → 0 ≤ V' (8 + i) ∧ V' (8 + i) ≤ 2) (h3 : ∀ p, 0 ≤ p → p < 6 → pnS V' p) (h4 : ∀ p, 0 ≤ p → p < 6 → zL V' p = zL V p ∧ ∀ j, 12 + 29 * p + 5 ≤ j → j < 12 + 29 * p + 29 → V' j = V j) : WF V' := by
  refine ⟨h1, h2, fun p p0 p1 => ?_⟩
  obtain ⟨a1, a2, a3, a4⟩ := h.2.2 p p0 p1
  obtain ⟨b1, b2⟩ := h4 p p0 p1
  have hw : ∀ k, 0 ≤ k → k < 12 → zW V' p k = zW V p k := fun k k0 k1 => by
    unfold zW zK zN
    rw [b2 _ (by omega) (by omega), b2 _ (by omega) (by omega)]
  have hd : ∀ k : Nat, k ≤ 12 → dpf (zW V' p) k = dpf (zW V p) k := fun k hk => dpf_cg fun i hi => hw i (by omega) (by omega)
  refine ⟨h3 p p0 p1, fun k k0 k1 => ?_, fun k hk => ?_, ?_⟩
  · have e : zK V' p k = zK V p k ∧ zN V' p k = zN V p k := Prod.mk.inj (hw k k0 k1)
    rw [e.1, e.2]
    exact a2 k k0 k1
  · rw [b1] at hk
    rw [hd k (by omega)]
    exact a3 k hk
  · rw [b1, hd _ (by omega)]
    exact a4
/-- a reading is of a person's words, the modes and the law -/
def sameR (V V' : VV) (p : Int) : Prop := (zL V' p = zL V p ∧ ∀ j, 12 + 29 * p + 5 ≤ j → j < 12 + 29 * p + 29 → V' j = V j) ∧ (∀ i, 0 ≤ i → i < 4 → V' (8 + i) = V (8 + i)) ∧ ∀ j, 486 ≤ j → V' j = V j
theorem enC_cg {md md' : Int → Int} : ∀ {r : List CL} {c : CL} {i : Int}, 0 ≤ i → i + r.length ≤ 4 → (∀ k, 0 ≤ k → k < 4 → md' k = md k) → enC md' i c r = enC md i c r
  | [], _, _, _, _, _ => rfl
  | a :: r, c, i, h0, h1, h => by
    simp only [List.length_cons] at h1
    show enC md' (i + 1) _ r = enC md (i + 1) _ r
    rw [h i h0 (by omega)]
    exact enC_cg (by omega) (by omega) h
theorem stk_cg {f f' : Int → Int × Int} {n : Nat} (h : ∀ k : Nat, k < n → f' k = f k) : stk f' n = stk f n := fd_ext fun x k hk => by rw [h k hk]
theorem rdC_cg {f f' : Int → Int × Int} {md md' : Int → Int} {n : Nat} (hw : okW f n) (hn : okN f n) (h : ∀ k : Nat, k < n → f' k = f k) (hm : ∀ k, 0 ≤ k → k < 4 → md' k = md k) : rdC f' n md' = rdC f n md := by
  have hl := (stk_ok hw hn n (Nat.le_refl _)).2
  have hz := hn n (Nat.le_refl _)
  unfold rdC
  rw [stk_cg h]
  generalize stk f n = st at hl
  match st, hl with
  | [], _ => rfl
  | c :: r, hl =>
    simp only [List.length_cons] at hl
    exact enC_cg (Int.le_refl _) (by omega) hm
theorem sL_cg {W W' : VV} (h : ∀ j, 486 ≤ j → W' j = W j) (fc : Int → Int) (w : Int) (hF : ∀ k : Nat, (k : Int) < W 486 → 0 ≤ lwF W k) : ∀ {n : Nat}, (n : Int) ≤ W 486 → sL W' fc w n = sL W fc w n
  | 0, _ => rfl
  | n + 1, hn => by
    have ih := sL_cg h fc w hF (n := n) (by omega)
    have f0 := hF n (by omega)
    have e1 : lwW W' n = lwW W n := h _ (by omega)
    have e2 : lwN W' n = lwN W n := h _ (by omega)
    have e3 : lwF W' n = lwF W n := h _ (by omega)
    have e4 : lwT W' n = lwT W n := h _ (by omega)
    have e5 : hlS W' fc n = hlS W fc n := by
      unfold hlS lst stS
      rw [e3, e4]
      congr 3
      refine fd_ext fun x k hk => ?_
      have a1 : lwC W' (lwF W n + k) = lwC W (lwF W n + k) := h _ (by omega)
      have a2 : lwA W' (lwF W n + k) = lwA W (lwF W n + k) := h _ (by omega)
      show evS fc x (lwC W' (lwF W n + k)) (lwA W' (lwF W n + k)) = evS fc x (lwC W (lwF W n + k)) (lwA W (lwF W n + k))
      rw [a1, a2]
    show (if lwW W' n = w ∧ hlS W' fc n = true then sL W' fc w n + lwN W' n else sL W' fc w n) = (if lwW W n = w ∧ hlS W fc n = true then sL W fc w n + lwN W n else sL W fc w n)
    rw [e1, e2, e5, ih]
theorem rd_cg {V V' : VV} {p n : Int} (hV9 : WF V) (hW : okLaw V) (h : sameR V V' p) (p0 : 0 ≤ p) (p1 : p < 6) (n0 : 0 ≤ n) (n1 : n ≤ zL V p) : rdV V' p n = rdV V p n ∧ wV V' V' p n = wV V V p n ∧ hV V' V' p n = hV V V p n := by
  have hp := hV9.pn p0 p1
  have e1 : rdV V' p n = rdV V p n := by
    unfold rdV
    exact rdC_cg (hV9.okW p0 p1 (by omega)) (hV9.okN p0 p1 (by omega)) (fun k hk => by
      unfold zW zK zN
      rw [h.1.2 _ (by omega) (by omega), h.1.2 _ (by omega) (by omega)]) h.2.1
  have e2 : fcV V' p n = fcV V p n := by
    unfold fcV
    rw [e1, h.1.1]
  have e6 : V' 486 = V 486 := h.2.2 _ (by decide)
  have h9 := hW.1
  have es : ∀ w, sL V' (fcV V p n) w (V 486).toNat = sL V (fcV V p n) w (V 486).toNat := fun w => sL_cg h.2.2 _ _ (fun k hk => (hW.2.2.2 k (by omega) hk).2.2.1.1) (by omega)
  refine ⟨e1, ?_, ?_⟩
  · unfold wV wgS
    rw [e1, e2, e6, es, es]
  · unfold hV hrS
    rw [e2, e6, es]
theorem okL_cg {W W' : VV} (h : ∀ j, 486 ≤ j → W' j = W j) {n : Int} (n0 : 0 ≤ n) (hn : okL W n) : okL W' n := by
  obtain ⟨o1, o2, o3, o4, o5⟩ := hn
  have e1 : lwW W' n = lwW W n := h _ (by omega)
  have e2 : lwN W' n = lwN W n := h _ (by omega)
  have e3 : lwF W' n = lwF W n := h _ (by omega)
  have e4 : lwT W' n = lwT W n := h _ (by omega)
  have ec : ∀ i, lwF W n ≤ i → lwC W' i = lwC W i := fun i hi => h _ (by omega)
  have ea : ∀ i, lwF W n ≤ i → lwA W' i = lwA W i := fun i hi => h _ (by omega)
  have et : ∀ k : Nat, tkS (fun i => lwC W' (lwF W n + i)) k = tkS (fun i => lwC W (lwF W n + i)) k := by
    intro k
    induction k with
    | zero => rfl
    | succ k ih =>
      unfold tkS
      rw [ih, ec _ (by omega)]
  unfold okL
  rw [e1, e2, e3, e4]
  refine ⟨o1, o2, o3, fun hl => ?_, fun i i0 i1 hi => ?_⟩
  · obtain ⟨q1, q2⟩ := o4 hl
    exact ⟨by rw [et]; exact q1, fun k ty hk ht => q2 k ty hk (by rw [← et]; exact ht)⟩
  · rw [ea i i0]
    exact o5 i i0 i1 (by rw [← ec i i0]; exact hi)
theorem okLaw.cg {W W' : VV} (h : okLaw W) (h2 : W' 2 = W 2) (e : ∀ j, 486 ≤ j → W' j = W j) : okLaw W' := by
  have e6 : W' 486 = W 486 := e _ (by decide)
  unfold okLaw
  rw [e6, h2]
  exact ⟨h.1, h.2.1, h.2.2.1, fun n n0 n1 => okL_cg e n0 (h.2.2.2 n n0 n1)⟩
theorem psL_cg {W W' : VV} (e : ∀ j, 486 ≤ j → W' j = W j) (n : Nat) : psL W' n = psL W n := fd_ext fun x k _ => by
  have e3 : lwF W' k = lwF W k := e _ (by omega)
  have e4 : lwT W' k = lwT W k := e _ (by omega)
  rw [e3, e4]
theorem LRel.cg {g : GG} {W W' : VV} (h : LRel g 35 W) (hW : okLaw W) (h2 : W' 2 = W 2) (e : ∀ j, 486 ≤ j → W' j = W j) : LRel g 35 W' := by
  have e6 : W' 486 = W 486 := e _ (by decide)
  obtain ⟨a0, ⟨a1, a2, a3, a4⟩, a5⟩ := h
  refine ⟨a0, ⟨by rw [e6, a1], by rw [h2, a2], by rw [e6, psL_cg e, a3], by rw [e6, psL_cg e]; exact a4⟩, fun n hn => ?_⟩
  rw [e6] at hn
  have f0 := (hW.2.2.2 n (by omega) hn).2.2.1.1
  obtain ⟨b1, b2, b3⟩ := a5 n hn
  have e1 : lwW W' n = lwW W n := e _ (by omega)
  have e2 : lwN W' n = lwN W n := e _ (by omega)
  have e3 : lwF W' n = lwF W n := e _ (by omega)
  have e4 : lwT W' n = lwT W n := e _ (by omega)
  rw [e1, e2, e3, e4, psL_cg e, psL_cg e]
  refine ⟨b1, b2, fun k hk => ?_⟩
  have ec : lwC W' (lwF W n + k) = lwC W (lwF W n + k) := e _ (by omega)
  have ea : lwA W' (lwF W n + k) = lwA W (lwF W n + k) := e _ (by omega)
  rw [ec, ea]
  exact b3 k hk
/-- hills t of the class are V, and the law in use is V's -/
def CT (g : GG) (t : Int) (V : VV) : Prop := HRel g t V ∧ WF V ∧ LRel g 35 V ∧ okLaw V
theorem CT.os {g g' : GG} {t : Int} {V : VV} (h : CT g t V) (e : onlyS g g') : CT g' t V := ⟨h.1.os e, h.2.1, h.2.2.1.os e, h.2.2.2⟩
theorem CT.up {g g' : GG} {t : Int} {V V' : VV} (h : CT g t V) (h1 : HRel g' t V') (h2 : WF V') (e2 : V' 2 = V 2) (e : ∀ j, 486 ≤ j → V' j = V j) (eg : onlyH g g' t) : CT g' t V' := by
  have hr := h.1.hi.rng
  exact ⟨h1, h2, (h.2.2.1.fr (fun j _ => eg _ _ (by omega)) (fun j => eg _ _ (by omega))).cg h.2.2.2 e2 e, h.2.2.2.cg e2 e⟩
section AW9
variable {V : VV} {p : Int}
theorem setS_ne {s c j : Int} (h3 : j ≠ 12 + 29 * p + 3) (h4 : j ≠ 12 + 29 * p + 4) : setS V p s c j = V j := by
  unfold setS
  rw [upV_ne h4, upV_ne h3]
theorem setS_s {s c : Int} : zS (setS V p s c) p = s := by
  unfold zS setS
  rw [upV_ne (by omega), upV_eq]
theorem setS_c {s c : Int} : zC (setS V p s c) p = c := by
  unfold zC setS
  rw [upV_eq]
theorem WF.set (h : WF V) {s c : Int} (p0 : 0 ≤ p) (p1 : p < 6) (s0 : 0 ≤ s) (s1 : s ≤ 2) (c0 : 0 ≤ c) (c1 : c ≤ zL V p) : WF (setS V p s c) := by
  have e : ∀ j, j < 12 → setS V p s c j = V j := fun j hj => setS_ne (by omega) (by omega)
  refine h.of ?_ (fun i i0 i1 => ?_) (fun q q0 q1 => ?_) (fun q q0 q1 => ⟨?_, fun j j0 j1 => ?_⟩)
  · unfold hdS
    rw [e 0 (by decide), e 1 (by decide), e 3 (by decide), e 4 (by decide), e 5 (by decide), e 6 (by decide)]
    exact h.1
  · rw [e _ (by omega)]; exact h.2.1 i i0 i1
  · have hq := h.pn q0 q1
    have a1 : zL (setS V p s c) q = zL V q := setS_ne (by omega) (by omega)
    have a2 : zB (setS V p s c) q = zB V q := setS_ne (by omega) (by omega)
    have a3 : zG (setS V p s c) q = zG V q := setS_ne (by omega) (by omega)
    unfold pnS
    rw [a1, a2, a3, e 0 (by decide)]
    by_cases z : q = p
    · subst z
      rw [setS_s, setS_c]
      exact ⟨hq.1, hq.2.1, hq.2.2.1, ⟨s0, s1⟩, ⟨c0, c1⟩, hq.2.2.2.2.2⟩
    · have a4 : zS (setS V p s c) q = zS V q := setS_ne (by omega) (by omega)
      have a5 : zC (setS V p s c) q = zC V q := setS_ne (by omega) (by omega)
      rw [a4, a5]
      exact hq
  · exact setS_ne (by omega) (by omega)
  · have : q = p ∨ q + 1 ≤ p ∨ p + 1 ≤ q := by omega
    exact setS_ne (by omega) (by omega)
theorem setS_same {s c : Int} (q : Int) (p0 : 0 ≤ p) (p1 : p < 6) : sameR V (setS V p s c) q := by
  have : q = p ∨ q + 1 ≤ p ∨ p + 1 ≤ q := by omega
  exact ⟨⟨setS_ne (by omega) (by omega), fun j j0 j1 => setS_ne (by omega) (by omega)⟩, fun i i0 i1 => setS_ne (by omega) (by omega), fun j hj => setS_ne (by omega) (by omega)⟩
theorem zNote_ne {w m x j : Int} (h6 : j ≠ 6) (h : j < 186 ∨ 486 ≤ j) : zNote V p w m x j = V j := by
  unfold zNote
  rw [if_neg (by omega), if_neg (by omega), if_neg (by omega), if_neg (by omega), if_neg (by omega), if_neg (by omega), if_neg h6]
theorem WF.nte (h : WF V) (w m x : Int) (p : Int) : WF (zNote V p w m x) := by
  have e : ∀ j, j < 186 → j ≠ 6 → zNote V p w m x j = V j := fun j hj h6 => zNote_ne h6 (Or.inl hj)
  have e6 : zNote V p w m x 6 = (if V 6 < 60 then V 6 + 1 else 60) := rfl
  have h1 := h.1
  refine h.of ?_ (fun i i0 i1 => ?_) (fun q q0 q1 => ?_) (fun q q0 q1 => ⟨?_, fun j j0 j1 => ?_⟩)
  · unfold hdS
    rw [e 0 (by decide) (by decide), e 1 (by decide) (by decide), e 3 (by decide) (by decide), e 4 (by decide) (by decide), e 5 (by decide) (by decide), e6]
    omega
  · rw [e _ (by omega) (by omega)]; exact h.2.1 i i0 i1
  · have hq := h.pn q0 q1
    have a1 : zL (zNote V p w m x) q = zL V q := e _ (by omega) (by omega)
    have a2 : zB (zNote V p w m x) q = zB V q := e _ (by omega) (by omega)
    have a3 : zG (zNote V p w m x) q = zG V q := e _ (by omega) (by omega)
    have a4 : zS (zNote V p w m x) q = zS V q := e _ (by omega) (by omega)
    have a5 : zC (zNote V p w m x) q = zC V q := e _ (by omega) (by omega)
    unfold pnS
    rw [a1, a2, a3, a4, a5, e 0 (by decide) (by decide)]
    exact hq
  · exact e _ (by omega) (by omega)
  · exact e _ (by omega) (by omega)
theorem zNote_same {w m x : Int} (q : Int) (q0 : 0 ≤ q) (q1 : q < 6) : sameR V (zNote V p w m x) q :=
  ⟨⟨zNote_ne (by omega) (by omega), fun j j0 j1 => zNote_ne (by omega) (by omega)⟩, fun i i0 i1 => zNote_ne (by omega) (by omega), fun j hj => zNote_ne (by omega) (by omega)⟩
end AW9
