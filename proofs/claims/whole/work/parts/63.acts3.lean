/-! THE ACTS: what each comes to -/
def s_begin (V : VV) (p : Int) : Int × Int := if 0 ≤ p ∧ p < V 0 then (if zS V p = 0 then (0, zL V p) else (2, 0)) else (1, 0)
def s_stop (V : VV) (p k : Int) : Int × Int := if 0 ≤ p ∧ p < V 0 then (if 0 ≤ k ∧ k ≤ 4 then (if zS V p = 1 then (0, brkR V p k) else (3, 0)) else (2, 0)) else (1, 0)
def s_finish (V : VV) (p : Int) : Int × Int := if 0 ≤ p ∧ p < V 0 then (if zS V p = 1 then (0, wV (setS V p 2 (zL V p)) (setS V p 2 (zL V p)) p (zL V p)) else (2, 0)) else (1, 0)
def s_retract (V : VV) (p : Int) : Int × Int := if 0 ≤ p ∧ p < V 0 then (if zS V p = 2 then (0, zC V p) else (2, 0)) else (1, 0)
def v_retract (V : VV) (p : Int) : VV := setS (zNote V p 6 (zC V p) (wV V V p (zC V p))) p 0 0
def s_guard (V : VV) (p n : Int) : Int × Int := if 0 ≤ p ∧ p < V 0 then (if 0 ≤ n ∧ n ≤ 9 then (0, zG V p) else (2, 0)) else (1, 0)
def s_noise (V : VV) (n : Int) : Int × Int := if 0 ≤ n ∧ n ≤ 100 then (0, V 3) else (1, 0)
def s_turn (V : VV) (i n : Int) : Int × Int := if 0 ≤ i ∧ i < 4 then (if 0 ≤ n ∧ n ≤ 2 then (0, V (8 + i)) else (2, 0)) else (1, 0)
def s_repeat (V : VV) (p q : Int) : Int × Int := if (0 ≤ p ∧ p < V 0) ∧ (0 ≤ q ∧ q < V 0) then (if p = q then (2, 0) else if zS V p = 0 then (0, zL V q) else (3, 0)) else (1, 0)
def s_hours (V : VV) (n : Int) : Int × Int := if 1 ≤ n ∧ n ≤ 60 then (0, (psS V n.toNat).2) else (1, 0)
theorem ZQ.of {V V' : VV} (h : ZQ V) (h0 : V' 0 = V 0) (e : ∀ p, V 0 ≤ p → p < 6 → ∀ w, 0 ≤ w → w < 29 → V' (12 + 29 * p + w) = V (12 + 29 * p + w)) (hs : ∀ p, 0 ≤ p → p < 6 → zS V' p = 0 → zC V' p = 0 ∨ (zS V p = 0 ∧ zC V' p = zC V p)) : ZQ V' :=
  ⟨fun p p0 p1 w w0 w1 => by
    rw [h0] at p0
    rw [e p p0 p1 w w0 w1]
    exact h.1 p p0 p1 w w0 w1, fun p p0 p1 z => by
    rcases hs p p0 p1 z with c | ⟨c1, c2⟩
    · exact c
    · rw [c2]; exact h.2 p p0 p1 c1⟩
theorem ZQ.set {V : VV} (h : ZQ V) {p s c : Int} (p0 : 0 ≤ p) (p1 : p < V 0) (p6 : p < 6) (hc : s = 0 → c = 0) : ZQ (setS V p s c) := by
  refine h.of (setS_ne (by omega) (by omega)) (fun q q0 q1 w w0 w1 => setS_ne (by omega) (by omega)) (fun q q0 q1 z => ?_)
  by_cases x : q = p
  · subst x
    rw [setS_s] at z
    rw [setS_c]
    exact Or.inl (hc z)
  · have a4 : zS (setS V p s c) q = zS V q := setS_ne (by omega) (by omega)
    have a5 : zC (setS V p s c) q = zC V q := setS_ne (by omega) (by omega)
    rw [a4] at z
    exact Or.inr ⟨z, a5⟩
theorem ZQ.nte {V : VV} (hV : WF V) (h : ZQ V) {p w m x : Int} : ZQ (zNote V p w m x) := by
  have h6 := hV.1.1
  refine h.of (zNote_ne (by decide) (by decide)) (fun q q0 q1 w w0 w1 => zNote_ne (by omega) (by omega)) (fun q q0 q1 z => ?_)
  have a4 : zS (zNote V p w m x) q = zS V q := zNote_ne (by omega) (by omega)
  have a5 : zC (zNote V p w m x) q = zC V q := zNote_ne (by omega) (by omega)
  rw [a4] at z
  exact Or.inr ⟨z, a5⟩
theorem ZQ.up {V : VV} (hV : WF V) (h : ZQ V) {i v : Int} (i0 : i ≠ 0) (hi : (i < 12) ∨ ∃ p c, i = 12 + 29 * p + c ∧ 0 ≤ p ∧ p < V 0 ∧ 0 ≤ c ∧ c < 29 ∧ c ≠ 3 ∧ (c = 4 → zS V p ≠ 0)) : ZQ (upV V i v) := by
  have h6 := hV.1.1
  refine h.of (upV_ne (by omega)) (fun q q0 q1 w w0 w1 => upV_ne ?_) (fun q q0 q1 z => ?_)
  · rcases hi with hi | ⟨p, c, e, a, b, c0, c1, _⟩
    · omega
    · omega
  · have a4 : zS (upV V i v) q = zS V q := upV_ne (by
      rcases hi with hi | ⟨p, c, e, a, b, c0, c1, c3, _⟩
      · omega
      · have : p = q ∨ p + 1 ≤ q ∨ q + 1 ≤ p := by omega
        omega)
    rw [a4] at z
    by_cases x : i = 12 + 29 * q + 4
    · exfalso
      rcases hi with hi | ⟨p, c, e, a, b, c0, c1, c3, c4⟩
      · omega
      · have pq : p = q := by
          have : p = q ∨ p + 1 ≤ q ∨ q + 1 ≤ p := by omega
          omega
        subst pq
        exact c4 (by omega) z
    · have a5 : zC (upV V i v) q = zC V q := upV_ne (by omega)
      exact Or.inr ⟨z, a5⟩
theorem ZQ.hld {V : VV} (hV : WF V) (h : ZQ V) {p many how : Int} (p0 : 0 ≤ p) (p1 : p < V 0) (m0 : 0 ≤ many) (m1 : many ≤ zL V p) : ZQ (heldT V p many how) := by
  have h6 := hV.1.1
  exact ZQ.nte (hV.set p0 (by omega) (by decide) (by decide) m0 m1) (h.set p0 p1 (by omega) (fun c => absurd c (by decide)))
theorem ZQ.brk {V : VV} (hV : WF V) (h : ZQ V) {p k : Int} (p0 : 0 ≤ p) (p1 : p < V 0) : ZQ (brkV V p k) := by
  have h6 := hV.1.1
  have hm := manyS_rng hV p0 (show p < 6 by omega) k
  unfold brkV
  by_cases q : k = 1
  · rw [if_pos q]; exact h.nte hV
  · rw [if_neg q]; exact h.hld hV p0 p1 hm.1 hm.2
theorem WF.brk {V : VV} (hV : WF V) {p k : Int} (p0 : 0 ≤ p) (p1 : p < 6) : WF (brkV V p k) := by
  have hm := manyS_rng hV p0 p1 k
  unfold brkV
  by_cases q : k = 1
  · rw [if_pos q]; exact hV.nte _ _ _ _
  · rw [if_neg q]; exact hV.hld p0 p1 hm.1 hm.2
/-- one speaks on: what stays -/
theorem spk_ok {V : VV} (hV : WF V) (hW : okLaw V) (hz : ZQ V) {p : Int} (p0 : 0 ≤ p) (p1 : p < V 0) (hs : zS V p = 1) : WF (spkV V p) ∧ ZQ (spkV V p) ∧ spkV V p 2 = V 2 ∧ ∀ j, 486 ≤ j → spkV V p j = V j := by
  have h6 := hV.1.1
  have w0 := hV.see (sdS V)
  have z0 : ZQ (upV V 7 (sdS V)) := hz.up hV (by decide) (Or.inl (by decide))
  have n0 : upV V 7 (sdS V) 0 = V 0 := upV_ne (by decide)
  have key1 : WF (spk1 V p) ∧ ZQ (spk1 V p) ∧ (spk1 V p 0 = V 0 ∧ spk1 V p 2 = V 2) ∧ ∀ j, 486 ≤ j → spk1 V p j = V j := by
    unfold spk1
    by_cases q : iRem (drS V) 100 < V 3 - 10 * zG V p
    · rw [if_pos q]
      have w1 := w0.see (sdS (upV V 7 (sdS V)))
      have z1 := z0.up w0 (i := 7) (v := sdS (upV V 7 (sdS V))) (by decide) (Or.inl (by decide))
      refine ⟨w1.brk p0 (by omega), z1.brk w1 p0 (by rw [upV_ne (by decide), n0]; exact p1), ⟨?_, ?_⟩, fun j hj => ?_⟩
      · rw [brkV_ne (by omega) (by omega) (by decide) (by decide), upV_ne (by decide), upV_ne (by decide)]
      · rw [brkV_ne (by omega) (by omega) (by decide) (by decide), upV_ne (by decide), upV_ne (by decide)]
      · rw [brkV_ne (by omega) (by omega) (by omega) (by omega), upV_ne (by omega), upV_ne (by omega)]
    · rw [if_neg q]
      exact ⟨w0, z0, ⟨n0, upV_ne (by decide)⟩, fun j hj => upV_ne (by omega)⟩
  have key2 : ∀ U : VV, WF U → ZQ U → (U 0 = V 0 ∧ U 2 = V 2) → (∀ j, 486 ≤ j → U j = V j) → WF (spk2 U p) ∧ ZQ (spk2 U p) ∧ (spk2 U p 0 = V 0 ∧ spk2 U p 2 = V 2) ∧ ∀ j, 486 ≤ j → spk2 U p j = V j := fun U wU zU hU hj => by
    have hp := wU.pn p0 (show p < 6 by omega)
    unfold spk2
    by_cases q : zS U p = 1
    · rw [if_pos q]
      by_cases q2 : zC U p + zB U p < zL U p
      · rw [if_pos q2]
        refine ⟨?_, zU.up wU (by omega) (Or.inr ⟨p, 4, rfl, p0, by omega, by decide, by decide, by decide, fun _ => by omega⟩), ⟨by rw [upV_ne (by omega), hU.1], by rw [upV_ne (by omega), hU.2]⟩, fun j h => by rw [upV_ne (by omega), hj j h]⟩
        rw [cnt_set]
        exact wU.set p0 (by omega) (by omega) (by omega) (by omega) (by omega)
      · rw [if_neg q2]
        refine ⟨wU.hld p0 (by omega) hp.1.1 (Int.le_refl _), zU.hld wU p0 (by omega) hp.1.1 (Int.le_refl _), ⟨by rw [heldT_ne (by omega) (by omega) (by decide) (by decide), hU.1], by rw [heldT_ne (by omega) (by omega) (by decide) (by decide), hU.2]⟩, fun j h => by rw [heldT_ne (by omega) (by omega) (by omega) (by omega), hj j h]⟩
    · rw [if_neg q]; exact ⟨wU, zU, hU, hj⟩
  have k2 := key2 _ key1.1 key1.2.1 key1.2.2.1 key1.2.2.2
  unfold spkV
  generalize spk2 (spk1 V p) p = U at k2 ⊢
  obtain ⟨wU, zU, hU, hj⟩ := k2
  unfold spk3
  by_cases q : zS U p = 2
  · rw [if_pos q]
    have hm : 0 ≤ iMin 9999 (U 5 + heardS U p) ∧ iMin 9999 (U 5 + heardS U p) ≤ 9999 := by
      have he := heard_rng (hW.cg hU.2 hj) p
      have h5 := wU.1
      rw [iMin_id (by omega) (by omega) (by omega) (by omega)]
      omega
    exact ⟨wU.ear hm.1 hm.2, zU.up wU (by decide) (Or.inl (by decide)), by rw [upV_ne (by decide), hU.2], fun j h => by rw [upV_ne (by omega), hj j h]⟩
  · rw [if_neg q]; exact ⟨wU, zU, hU.2, hj⟩
theorem hr_ok : ∀ (n : Nat) {V : VV} {x : Int}, WF V → okLaw V → ZQ V → (n : Int) ≤ V 0 → WF (fd hrP (V, x) n).1 ∧ okLaw (fd hrP (V, x) n).1 ∧ ZQ (fd hrP (V, x) n).1 ∧ (fd hrP (V, x) n).1 2 = V 2 ∧ ∀ j, 486 ≤ j → (fd hrP (V, x) n).1 j = V j
  | 0, V, x, hV, hW, hz, _ => ⟨hV, hW, hz, rfl, fun _ _ => rfl⟩
  | n + 1, V, x, hV, hW, hz, hn => by
    have ih := hr_ok n (x := x) hV hW hz (by omega)
    have e0 := hrP_0 (V, x) n
    have e : fd hrP (V, x) (n + 1) = hrP (fd hrP (V, x) n) n := rfl
    rw [e]
    generalize fd hrP (V, x) n = st at ih e0 ⊢
    obtain ⟨i1, i2, i3, i4, i5⟩ := ih
    have e0 : st.1 0 = V 0 := e0
    unfold hrP
    by_cases q : zS st.1 n = 1
    · rw [if_pos q]
      have s := spk_ok i1 i2 i3 (p := (n : Int)) (by omega) (by omega) q
      exact ⟨s.1, i2.cg s.2.2.1 s.2.2.2, s.2.1, by show spkV st.1 n 2 = V 2; rw [s.2.2.1, i4], fun j hj => by show spkV st.1 n j = V j; rw [s.2.2.2 j hj, i5 j hj]⟩
    · rw [if_neg q]; exact ⟨i1, i2, i3, i4, i5⟩
theorem ps_ok {V : VV} (hV : WF V) (hW : okLaw V) (hz : ZQ V) : ∀ n : Nat, WF (psS V n).1 ∧ okLaw (psS V n).1 ∧ ZQ (psS V n).1 ∧ (psS V n).1 2 = V 2 ∧ ∀ j, 486 ≤ j → (psS V n).1 j = V j
  | 0 => ⟨hV, hW, hz, rfl, fun _ _ => rfl⟩
  | n + 1 => by
    have ih := ps_ok hV hW hz n
    have e : psS V (n + 1) = hrS1 (psS V n) := rfl
    rw [e]
    generalize psS V n = st at ih ⊢
    obtain ⟨i1, i2, i3, i4, i5⟩ := ih
    have h := hr_ok (st.1 0).toNat (V := st.1) (x := st.2) i1 i2 i3 (by have := i1.1.1; omega)
    have es : (st.1, st.2) = st := rfl
    rw [es] at h
    unfold hrS1
    generalize (fd hrP st (st.1 0).toNat).1 = U at h ⊢
    obtain ⟨u1, u2, u3, u4, u5⟩ := h
    have h4 := u1.1.2.2.2.1
    have hm : 0 ≤ iMin 9999 (U 4 + 1) ∧ iMin 9999 (U 4 + 1) ≤ 9999 := by
      rw [iMin_id (by omega) (by omega) (by omega) (by omega)]
      omega
    refine ⟨u1.hou hm.1 hm.2, u2.cg (W' := upV U 4 (iMin 9999 (U 4 + 1))) (upV_ne (by decide)) (fun j hj => upV_ne (by omega)), u3.up u1 (i := 4) (by decide) (Or.inl (by decide)), ?_, fun j hj => ?_⟩
    · show upV U 4 (iMin 9999 (U 4 + 1)) 2 = V 2
      rw [upV_ne (by decide), u4, i4]
    · show upV U 4 (iMin 9999 (U 4 + 1)) j = V j
      rw [upV_ne (by omega), u5 j hj, i5 j hj]
/-- one's words are another's -/
theorem cpO_ne {V : VV} {p q j : Int} (h : j < 12 + 29 * p + 5 ∨ 12 + 29 * p + 29 ≤ j) (h0 : j ≠ 12 + 29 * p + 0) : cpO V p q j = V j := by
  unfold cpO
  rw [upV_ne h0]
  unfold cpW
  rw [if_neg (by omega)]
theorem cpO_w {V : VV} {p q j : Int} (j0 : 5 ≤ j) (j1 : j < 29) : cpO V p q (12 + 29 * p + j) = V (12 + 29 * q + j) := by
  unfold cpO
  rw [upV_ne (by omega)]
  unfold cpW
  rw [if_pos (by omega), show 12 + 29 * p + j - 29 * p + 29 * q = 12 + 29 * q + j by omega]
theorem cpO_ok {V : VV} (hV : WF V) (hz : ZQ V) {p q : Int} (p0 : 0 ≤ p) (p1 : p < V 0) (q0 : 0 ≤ q) (q1 : q < V 0) (hs : zS V p = 0) : WF (cpO V p q) ∧ ZQ (cpO V p q) ∧ zL (cpO V p q) p = zL V q := by
  have h6 := hV.1.1
  have hp := hV.pn p0 (show p < 6 by omega)
  have hq := hV.pn q0 (show q < 6 by omega)
  have hl := (hq.2.2.2.2.2 q1).1
  have c0 := hz.2 p p0 (by omega) hs
  have eL : zL (cpO V p q) p = zL V q := by unfold zL cpO; rw [upV_eq]; rfl
  have ew : ∀ k, 0 ≤ k → k < 12 → zW (cpO V p q) p k = zW V q k := fun k k0 k1 => by
    unfold zW zK zN
    rw [cpO_w (by omega) (by omega), cpO_w (by omega) (by omega)]
  refine ⟨⟨?_, fun i i0 i1 => ?_, fun r r0 r1 => ?_⟩, hz.of (cpO_ne (by omega) (by omega)) (fun r r0 r1 w w0 w1 => cpO_ne (by omega) (by omega)) (fun r r0 r1 z => ?_), eL⟩
  · rw [cpO_ne (by omega) (by omega), cpO_ne (by omega) (by omega), cpO_ne (by omega) (by omega), cpO_ne (by omega) (by omega), cpO_ne (by omega) (by omega), cpO_ne (by omega) (by omega)]
    exact hV.1
  · rw [cpO_ne (by omega) (by omega)]; exact hV.2.1 i i0 i1
  · by_cases x : r = p
    · subst x
      have e1 : zB (cpO V r q) r = zB V r := cpO_ne (by omega) (by omega)
      have e2 : zG (cpO V r q) r = zG V r := cpO_ne (by omega) (by omega)
      have e3 : zS (cpO V r q) r = zS V r := cpO_ne (by omega) (by omega)
      have e4 : zC (cpO V r q) r = zC V r := cpO_ne (by omega) (by omega)
      have hd : ∀ k : Nat, k ≤ 12 → dpf (zW (cpO V r q) r) k = dpf (zW V q) k := fun k hk => dpf_cg fun i hi => ew i (by omega) (by omega)
      obtain ⟨-, b2, b3, b4⟩ := hV.po q0 (show q < 6 by omega)
      unfold PO
      rw [eL, e1, e2, e3, e4]
      refine ⟨⟨hq.1, hp.2.1, hp.2.2.1, hp.2.2.2.1, by omega, fun _ => ⟨hl, (hp.2.2.2.2.2 p1).2⟩⟩, fun k k0 k1 => ?_, fun k hk => ?_, ?_⟩
      · have e : zK (cpO V r q) r k = zK V q k ∧ zN (cpO V r q) r k = zN V q k := Prod.mk.inj (ew k k0 k1)
        rw [e.1, e.2]
        exact b2 k k0 k1
      · rw [hd k (by omega)]; exact b3 k hk
      · rw [hd _ (by omega)]; exact b4
    · obtain ⟨a1, a2, a3, a4⟩ := hV.po r0 r1
      have xr : r = p ∨ r + 1 ≤ p ∨ p + 1 ≤ r := by omega
      have en : ∀ w, 0 ≤ w → w < 29 → cpO V p q (12 + 29 * r + w) = V (12 + 29 * r + w) := fun w w0 w1 => cpO_ne (by omega) (by omega)
      have ew' : ∀ k, 0 ≤ k → k < 12 → zW (cpO V p q) r k = zW V r k := fun k k0 k1 => by
        unfold zW zK zN
        rw [en _ (by omega) (by omega), en _ (by omega) (by omega)]
      have e0 : zL (cpO V p q) r = zL V r := en 0 (by decide) (by decide)
      have e1 : zB (cpO V p q) r = zB V r := en 1 (by decide) (by decide)
      have e2 : zG (cpO V p q) r = zG V r := en 2 (by decide) (by decide)
      have e3 : zS (cpO V p q) r = zS V r := en 3 (by decide) (by decide)
      have e4 : zC (cpO V p q) r = zC V r := en 4 (by decide) (by decide)
      have e5 : cpO V p q 0 = V 0 := cpO_ne (by omega) (by omega)
      have hd : ∀ k : Nat, k ≤ 12 → dpf (zW (cpO V p q) r) k = dpf (zW V r) k := fun k hk => dpf_cg fun i hi => ew' i (by omega) (by omega)
      unfold PO
      rw [e0, e1, e2, e3, e4, e5]
      refine ⟨a1, fun k k0 k1 => ?_, fun k hk => ?_, ?_⟩
      · have e : zK (cpO V p q) r k = zK V r k ∧ zN (cpO V p q) r k = zN V r k := Prod.mk.inj (ew' k k0 k1)
        rw [e.1, e.2]
        exact a2 k k0 k1
      · rw [hd k (by omega)]; exact a3 k hk
      · rw [hd _ (by omega)]; exact a4
  · have e3 : zS (cpO V p q) r = zS V r := by
      have xr : r = p ∨ r + 1 ≤ p ∨ p + 1 ≤ r := by omega
      exact cpO_ne (by omega) (by omega)
    have e4 : zC (cpO V p q) r = zC V r := by
      have xr : r = p ∨ r + 1 ≤ p ∨ p + 1 ≤ r := by omega
      exact cpO_ne (by omega) (by omega)
    rw [e3] at z
    exact Or.inr ⟨z, e4⟩
