/-! A TEXT OF THE HILLS: what it leaves is such -/
theorem sgK_any (s : Int) : -1 ≤ sgK s ∧ sgK s ≤ 9 := by
  unfold sgK sgKind
  by_cases c : (s - 1000).toNat < 10
  · rw [if_pos c]; omega
  · rw [if_neg c]; omega
/-- w words of a person are such, wi clauses stand open behind them -/
def WDI (V : VV) (p w wi : Int) : Prop := (∀ k, 0 ≤ k → k < w → (0 ≤ zK V p k ∧ zK V p k ≤ 9) ∧ (0 ≤ zN V p k ∧ zN V p k ≤ 9)) ∧
  (∀ k : Nat, (k : Int) ≤ w → 0 ≤ dpf (zW V p) k ∧ dpf (zW V p) k ≤ 3) ∧ dpf (zW V p) w.toNat = wi ∧ ∀ k, w ≤ k → k < 12 → zK V p k = 0 ∧ zN V p k = 0
theorem zW_cg {V V' : VV} {p : Int} (e : ∀ j, 12 + 29 * p + 5 ≤ j → j < 12 + 29 * p + 29 → V' j = V j) {k : Int} (k0 : 0 ≤ k) (k1 : k < 12) : zK V' p k = zK V p k ∧ zN V' p k = zN V p k := by
  unfold zK zN
  exact ⟨e _ (by omega) (by omega), e _ (by omega) (by omega)⟩
theorem WDI.cg {V V' : VV} {p w wi : Int} (h : WDI V p w wi) (w0 : 0 ≤ w) (w1 : w ≤ 12) (e : ∀ j, 12 + 29 * p + 5 ≤ j → j < 12 + 29 * p + 29 → V' j = V j) : WDI V' p w wi := by
  obtain ⟨h1, h2, h3, h4⟩ := h
  have ed : ∀ k : Nat, (k : Int) ≤ w → dpf (zW V' p) k = dpf (zW V p) k := fun k hk => dpf_cg fun i hi => by
    have := zW_cg e (k := (i : Int)) (by omega) (by omega)
    show (zK V' p i, zN V' p i) = (zK V p i, zN V p i)
    rw [this.1, this.2]
  refine ⟨fun k k0 k1 => ?_, fun k hk => by rw [ed k hk]; exact h2 k hk, by rw [ed _ (by omega)]; exact h3, fun k k0 k1 => ?_⟩
  · have := zW_cg e k0 (show k < 12 by omega)
    rw [this.1, this.2]
    exact h1 k k0 k1
  · have := zW_cg e (show 0 ≤ k by omega) k1
    rw [this.1, this.2]
    exact h4 k k0 k1
theorem WDI.add {V : VV} {p w wi k n : Int} (h : WDI V p w wi) (w0 : 0 ≤ w) (w1 : w < 12) (k0 : 0 ≤ k) (k9 : k ≤ 9) (n0 : 0 ≤ n) (n9 : n ≤ 9) (o0 : 0 ≤ opN k wi) (o3 : opN k wi ≤ 3) : WDI (wvS V p w k n) p (w + 1) (opN k wi) := by
  obtain ⟨h1, h2, h3, h4⟩ := h
  have ek : zK (wvS V p w k n) p w = k ∧ zN (wvS V p w k n) p w = n := by
    unfold zK zN wvS
    exact ⟨by rw [upV_ne (by omega), upV_eq], upV_eq⟩
  have eo : ∀ i, i ≠ w → zK (wvS V p w k n) p i = zK V p i ∧ zN (wvS V p w k n) p i = zN V p i := fun i hi => by
    unfold zK zN wvS
    exact ⟨by rw [upV_ne (by omega), upV_ne (by omega)], by rw [upV_ne (by omega), upV_ne (by omega)]⟩
  have ed : ∀ i : Nat, (i : Int) ≤ w → dpf (zW (wvS V p w k n) p) i = dpf (zW V p) i := fun i hi => dpf_cg fun j hj => by
    have := eo (j : Int) (by omega)
    show (zK (wvS V p w k n) p j, zN (wvS V p w k n) p j) = (zK V p j, zN V p j)
    rw [this.1, this.2]
  have en : dpf (zW (wvS V p w k n) p) (w.toNat + 1) = opN k wi := by
    rw [dpf_s, ed _ (by omega), h3]
    unfold opN zW
    rw [show (w.toNat : Int) = w by omega, ek.1]
  refine ⟨fun i i0 i1 => ?_, fun i hi => ?_, ?_, fun i i0 i1 => ?_⟩
  · by_cases c : i = w
    · rw [c, ek.1, ek.2]; exact ⟨⟨k0, k9⟩, n0, n9⟩
    · rw [(eo i c).1, (eo i c).2]; exact h1 i i0 (by omega)
  · by_cases c : (i : Int) ≤ w
    · rw [ed i c]; exact h2 i c
    · rw [show i = w.toNat + 1 by omega, en]; exact ⟨o0, o3⟩
  · rw [show (w + 1).toNat = w.toNat + 1 by omega]; exact en
  · rw [(eo i (by omega)).1, (eo i (by omega)).2]; exact h4 i (by omega) i1
theorem wd_wf {S N : Int → Int} {p : Int} : ∀ (f : Nat) (V : VV) (a w wi : Int), (f : Int) + w = 12 → 0 ≤ w → 0 ≤ wi → wi ≤ 3 → WDI V p w wi → (wdR S N p f V a w wi).1 = true → ∃ w', 0 < w' ∧ w' ≤ 12 ∧ zL (wdR S N p f V a w wi).2.2 p = w' ∧ WDI (wdR S N p f V a w wi).2.2 p w' 0 := by
  intro f
  have fin : ∀ (V : VV) (a w wi : Int), 0 ≤ w → w ≤ 12 → WDI V p w wi → decide (0 < w ∧ wi = 0 ∧ sgK (S a) = -1) = true → ∃ w', 0 < w' ∧ w' ≤ 12 ∧ zL (upV V (12 + 29 * p + 0) w) p = w' ∧ WDI (upV V (12 + 29 * p + 0) w) p w' 0 := by
    intro V a w wi w0 w1 h z
    have z := of_decide_eq_true z
    have hw := h.cg (V' := upV V (12 + 29 * p + 0) w) w0 w1 (fun j j0 j1 => upV_ne (by omega))
    rw [z.2.1] at hw
    exact ⟨w, z.1, w1, upV_eq, hw⟩
  induction f with
  | zero =>
    intro V a w wi hw w0 i0 i1 h z
    exact fin V a w wi w0 (by omega) h z
  | succ f ih =>
    intro V a w wi hw w0 i0 i1 h z
    have sk := sgK_any (S a)
    unfold wdR at z ⊢
    by_cases c : sgK (S a) = -1
    · rw [if_pos c] at z ⊢
      exact fin V a w wi w0 (by omega) h z
    rw [if_neg c] at z ⊢
    by_cases c2 : opN (sgK (S a)) wi < 0 ∨ 3 < opN (sgK (S a)) wi
    · rw [if_pos c2] at z
      exact absurd z Bool.false_ne_true
    rw [if_neg c2] at z ⊢
    by_cases c3 : hsN (sgK (S a))
    · rw [if_pos c3] at z ⊢
      by_cases c4 : isN S N (a + 1) 0 9
      · rw [if_pos c4] at z ⊢
        exact ih _ _ _ _ (by omega) (by omega) (by omega) (by omega) (h.add w0 (by omega) (by omega) (by omega) c4.2.1 c4.2.2 (by omega) (by omega)) z
      · rw [if_neg c4] at z
        exact absurd z Bool.false_ne_true
    · rw [if_neg c3] at z ⊢
      exact ih _ _ _ _ (by omega) (by omega) (by omega) (by omega) (h.add w0 (by omega) (by omega) (by omega) (by decide) (by decide) (by omega) (by omega)) z
theorem nw_eq {W : VV} {p br gu : Int} (p0 : 0 ≤ p) (h3 : W (12 + 29 * p + 3) = 0) (h4 : W (12 + 29 * p + 4) = 0) : upV (upV (nwP W p) (12 + 29 * p + 1) br) (12 + 29 * p + 2) gu = upV (upV (upV W (12 + 29 * p + 1) br) (12 + 29 * p + 2) gu) 0 (p + 1) := by
  funext j
  show (if j = 12 + 29 * p + 2 then gu else if j = 12 + 29 * p + 1 then br else if j = 0 then p + 1 else if j = 12 + 29 * p + 4 then 0 else if j = 12 + 29 * p + 3 then 0 else if j = 12 + 29 * p + 2 then 0 else if j = 12 + 29 * p + 1 then 1 else W j) = (if j = 0 then p + 1 else if j = 12 + 29 * p + 2 then gu else if j = 12 + 29 * p + 1 then br else W j)
  by_cases c0 : j = 0
  · rw [if_neg (by omega), if_neg (by omega), if_pos c0, if_pos c0]
  by_cases c2 : j = 12 + 29 * p + 2
  · rw [if_pos c2, if_neg c0, if_pos c2]
  by_cases c1 : j = 12 + 29 * p + 1
  · rw [if_neg c2, if_pos c1, if_neg c0, if_neg c2, if_pos c1]
  rw [if_neg c2, if_neg c1, if_neg c0, if_neg c0, if_neg c2, if_neg c1]
  by_cases c4 : j = 12 + 29 * p + 4
  · rw [if_pos c4, if_neg c2, if_neg c1, c4, h4]
  by_cases c3 : j = 12 + 29 * p + 3
  · rw [if_neg c4, if_pos c3, if_neg c2, if_neg c1, c3, h3]
  rw [if_neg c4, if_neg c3, if_neg c2, if_neg c1]
theorem nw_B {W : VV} {p : Int} (p0 : 0 ≤ p) : nwP W p = upV (nwP W p) (12 + 29 * p + 1) 1 := by
  funext j
  by_cases c : j = 12 + 29 * p + 1
  · rw [c, upV_eq]
    unfold nwP setS
    rw [upV_ne (by omega), upV_ne (by omega), upV_ne (by omega), upV_ne (by omega), upV_eq]
  · rw [upV_ne c]
theorem nw_G {W : VV} {p br : Int} (p0 : 0 ≤ p) : upV (nwP W p) (12 + 29 * p + 1) br = upV (upV (nwP W p) (12 + 29 * p + 1) br) (12 + 29 * p + 2) 0 := by
  funext j
  by_cases c : j = 12 + 29 * p + 2
  · rw [c, upV_eq, upV_ne (by omega)]
    unfold nwP setS
    rw [upV_ne (by omega), upV_ne (by omega), upV_ne (by omega), upV_eq]
  · rw [upV_ne c]
/-- breath and guards of one that is new -/
def brS (S N : Int → Int) (a : Int) : Int × Int := if S a = 1011 then (N (a + 1), a + 2) else (1, a)
def guS (S N : Int → Int) (a : Int) : Int × Int := if S a = 1012 then (N (a + 1), a + 2) else (0, a)
theorem ex_nf {S N : Int → Int} {W : VV} {p a : Int} (p0 : 0 ≤ p) (h3 : W (12 + 29 * p + 3) = 0) (h4 : W (12 + 29 * p + 4) = 0) (hb : S a = 1011 → isN S N (a + 1) 1 9) (hg : S (brS S N a).2 = 1012 → isN S N ((brS S N a).2 + 1) 0 9) :
    exR S N 1011 1 (12 + 29 * p + 1) (nwP W p) a = (true, (brS S N a).2, upV (nwP W p) (12 + 29 * p + 1) (brS S N a).1) ∧
    exR S N 1012 0 (12 + 29 * p + 2) (upV (nwP W p) (12 + 29 * p + 1) (brS S N a).1) (brS S N a).2 = (true, (guS S N (brS S N a).2).2, upV (upV (upV W (12 + 29 * p + 1) (brS S N a).1) (12 + 29 * p + 2) (guS S N (brS S N a).2).1) 0 (p + 1)) := by
  constructor
  · unfold exR brS
    by_cases c : S a = 1011
    · rw [if_pos c, if_pos (hb c), if_pos c]
    · rw [if_neg c, if_neg c, ← nw_B p0]
  · generalize brS S N a = x at hg ⊢
    rw [← nw_eq p0 h3 h4]
    unfold exR guS
    by_cases c : S x.2 = 1012
    · rw [if_pos c, if_pos (hg c), if_pos c]
    · rw [if_neg c, if_neg c, ← nw_G p0]
theorem PO.cg {V V' : VV} {q : Int} (h : PO V q) (e : ∀ j, 12 + 29 * q ≤ j → j < 12 + 29 * q + 29 → V' j = V j) (e0 : q < V' 0 → q < V 0) : PO V' q := by
  obtain ⟨⟨a1, a2, a3, a4, a5, a6⟩, b1, b2, b3⟩ := h
  have eL : zL V' q = zL V q := e _ (by omega) (by omega)
  have eB : zB V' q = zB V q := e _ (by omega) (by omega)
  have eG : zG V' q = zG V q := e _ (by omega) (by omega)
  have eS : zS V' q = zS V q := e _ (by omega) (by omega)
  have eC : zC V' q = zC V q := e _ (by omega) (by omega)
  have ew := fun k (k0 : 0 ≤ k) (k1 : k < 12) => zW_cg (V := V) (V' := V') (p := q) (fun j j0 j1 => e j (by omega) (by omega)) k0 k1
  have ed : ∀ k : Nat, (k : Int) ≤ 12 → dpf (zW V' q) k = dpf (zW V q) k := fun k hk => dpf_cg fun i hi => by
    have := ew (i : Int) (by omega) (by omega)
    show (zK V' q i, zN V' q i) = (zK V q i, zN V q i)
    rw [this.1, this.2]
  refine ⟨⟨by rw [eL]; exact a1, by rw [eB]; exact a2, by rw [eG]; exact a3, by rw [eS]; exact a4, by rw [eC, eL]; exact a5, fun z => by rw [eL, eB]; exact a6 (e0 z)⟩, fun k k0 k1 => ?_, fun k hk => ?_, ?_⟩
  · rw [(ew k k0 k1).1, (ew k k0 k1).2]; exact b1 k k0 k1
  · rw [eL] at hk
    rw [ed k (by omega)]; exact b2 k hk
  · rw [eL, ed _ (by omega)]; exact b3
/-- what a text of the hills keeps -/
def HK (V V' : VV) : Prop := (WF V' ∧ ZQ V') ∧ V' 1 = V 1 ∧ V' 2 = V 2 ∧ ∀ j, 186 ≤ j → V' j = V j
section HW
variable {S N : Int → Int} {V : VV} {a : Int}
theorem oa_cases (h : (oaR S N V a).1 = true) : V 0 < 6 ∧ (wdR S N (V 0) 12 V (a + 1) 0 0).1 = true ∧ ((S (wdR S N (V 0) 12 V (a + 1) 0 0).2.1 = 1011 → isN S N ((wdR S N (V 0) 12 V (a + 1) 0 0).2.1 + 1) 1 9) ∧ (S (brS S N (wdR S N (V 0) 12 V (a + 1) 0 0).2.1).2 = 1012 → isN S N ((brS S N (wdR S N (V 0) 12 V (a + 1) 0 0).2.1).2 + 1) 0 9)) := by
  unfold oaR at h
  by_cases c : V 0 < 6
  · rw [if_pos c] at h
    generalize wdR S N (V 0) 12 V (a + 1) 0 0 = r at h ⊢
    simp only at h
    by_cases z : r.1 = true
    · rw [if_pos z] at h
      have hb : S r.2.1 = 1011 → isN S N (r.2.1 + 1) 1 9 := fun y => by
        by_cases w : isN S N (r.2.1 + 1) 1 9
        · exact w
        · have e : exR S N 1011 1 (12 + 29 * V 0 + 1) (nwP r.2.2 (V 0)) r.2.1 = (false, r.2.1 + 1, nwP r.2.2 (V 0)) := by
            unfold exR
            rw [if_pos y, if_neg w]
          rw [e] at h
          exact absurd h Bool.false_ne_true
      refine ⟨c, z, hb, fun y => ?_⟩
      have e : (exR S N 1011 1 (12 + 29 * V 0 + 1) (nwP r.2.2 (V 0)) r.2.1).1 = true ∧ (exR S N 1011 1 (12 + 29 * V 0 + 1) (nwP r.2.2 (V 0)) r.2.1).2.1 = (brS S N r.2.1).2 := by
        unfold exR brS
        by_cases v : S r.2.1 = 1011
        · rw [if_pos v, if_pos (hb v), if_pos v]; exact ⟨rfl, rfl⟩
        · rw [if_neg v, if_neg v]; exact ⟨rfl, rfl⟩
      rw [if_pos e.1, e.2] at h
      by_cases w : isN S N ((brS S N r.2.1).2 + 1) 0 9
      · exact w
      · unfold exR at h
        rw [if_pos y, if_neg w] at h
        exact absurd h Bool.false_ne_true
    · rw [if_neg z] at h
      exact absurd h z
  · rw [if_neg c] at h
    exact absurd h Bool.false_ne_true
theorem oa_nf (v0 : 0 ≤ V 0) (hz : ZP V) (h : (oaR S N V a).1 = true) : oaR S N V a = (true, (guS S N (brS S N (wdR S N (V 0) 12 V (a + 1) 0 0).2.1).2).2, upV (upV (upV (wdR S N (V 0) 12 V (a + 1) 0 0).2.2 (12 + 29 * V 0 + 1) (brS S N (wdR S N (V 0) 12 V (a + 1) 0 0).2.1).1) (12 + 29 * V 0 + 2) (guS S N (brS S N (wdR S N (V 0) 12 V (a + 1) 0 0).2.1).2).1) 0 (V 0 + 1)) := by
  obtain ⟨c, z, hb, hg⟩ := oa_cases h
  have hf := wd_fr (S := S) (N := N) (p := V 0) 12 V (a + 1) 0 0 (by decide) (by decide)
  have h3 := hf (12 + 29 * V 0 + 3) (by omega)
  have h4 := hf (12 + 29 * V 0 + 4) (by omega)
  rw [hz _ (Int.le_refl _) c 3 (by decide) (by decide)] at h3
  rw [hz _ (Int.le_refl _) c 4 (by decide) (by decide)] at h4
  have nf := ex_nf v0 h3 h4 hb hg
  unfold oaR
  rw [if_pos c]
  simp only
  rw [if_pos z, nf.1]
  show exR S N 1012 0 (12 + 29 * V 0 + 2) (upV (nwP _ (V 0)) (12 + 29 * V 0 + 1) _) _ = _
  exact nf.2
theorem oa_wf (hV : WF V) (hz : ZQ V) (h : (oaR S N V a).1 = true) : HK V (oaR S N V a).2.2 := by
  obtain ⟨c, z, hb, hg⟩ := oa_cases h
  have v0 := hV.1.1.1
  have hf := wd_fr (S := S) (N := N) (p := V 0) 12 V (a + 1) 0 0 (by decide) (by decide)
  have zw : ∀ k, 0 ≤ k → k < 12 → zK V (V 0) k = 0 ∧ zN V (V 0) k = 0 := fun k k0 k1 => ⟨hz.1 _ (Int.le_refl _) c (5 + 2 * k) (by omega) (by omega), hz.1 _ (Int.le_refl _) c (5 + 2 * k + 1) (by omega) (by omega)⟩
  have hw := wd_wf (S := S) (N := N) (p := V 0) 12 V (a + 1) 0 0 (by decide) (by decide) (by decide) (by decide) ⟨fun k k0 k1 => absurd k1 (by omega), fun k hk => by rw [show k = 0 by omega]; exact ⟨Int.le_refl 0, show (0 : Int) ≤ 3 by decide⟩, rfl, zw⟩ z
  rw [oa_nf v0 hz.1 h]
  generalize wdR S N (V 0) 12 V (a + 1) 0 0 = r at *
  obtain ⟨w, w0, w1, hL, hD⟩ := hw
  have b9 : 1 ≤ (brS S N r.2.1).1 ∧ (brS S N r.2.1).1 ≤ 9 := by
    unfold brS
    by_cases y : S r.2.1 = 1011
    · rw [if_pos y]; exact (hb y).2
    · rw [if_neg y]; exact ⟨Int.le_refl 1, show (1 : Int) ≤ 9 by decide⟩
  have g9 : 0 ≤ (guS S N (brS S N r.2.1).2).1 ∧ (guS S N (brS S N r.2.1).2).1 ≤ 9 := by
    unfold guS
    by_cases y : S (brS S N r.2.1).2 = 1012
    · rw [if_pos y]; exact (hg y).2
    · rw [if_neg y]; exact ⟨Int.le_refl 0, show (0 : Int) ≤ 9 by decide⟩
  generalize (brS S N r.2.1).1 = br at *
  generalize (guS S N (brS S N r.2.1).2).1 = gu at *
  show HK V (upV (upV (upV r.2.2 (12 + 29 * V 0 + 1) br) (12 + 29 * V 0 + 2) gu) 0 (V 0 + 1))
  generalize hV' : upV (upV (upV r.2.2 (12 + 29 * V 0 + 1) br) (12 + 29 * V 0 + 2) gu) 0 (V 0 + 1) = V'
  have e0 : V' 0 = V 0 + 1 := by rw [← hV']; exact upV_eq
  have eB : zB V' (V 0) = br := by
    rw [← hV']
    unfold zB
    rw [upV_ne (by omega), upV_ne (by omega), upV_eq]
  have eG : zG V' (V 0) = gu := by
    rw [← hV']
    unfold zG
    rw [upV_ne (by omega), upV_eq]
  have er : ∀ j, j ≠ 0 → j ≠ 12 + 29 * V 0 + 1 → j ≠ 12 + 29 * V 0 + 2 → V' j = r.2.2 j := fun j j0 j1 j2 => by
    rw [← hV', upV_ne j0, upV_ne j2, upV_ne j1]
  have eo : ∀ j, j ≠ 0 → ¬ (12 + 29 * V 0 ≤ j ∧ j < 12 + 29 * V 0 + 29) → V' j = V j := fun j j0 j1 => by
    rw [er j j0 (by omega) (by omega)]
    exact hf j (by omega)
  have eL : zL V' (V 0) = w := by
    unfold zL at hL ⊢
    rw [er _ (by omega) (by omega) (by omega)]
    exact hL
  have eS : zS V' (V 0) = 0 := by
    unfold zS
    rw [er _ (by omega) (by omega) (by omega), hf _ (by omega)]
    exact hz.1 _ (Int.le_refl _) c 3 (by decide) (by decide)
  have eC : zC V' (V 0) = 0 := by
    unfold zC
    rw [er _ (by omega) (by omega) (by omega), hf _ (by omega)]
    exact hz.1 _ (Int.le_refl _) c 4 (by decide) (by decide)
  have hD := hD.cg (V' := V') (by omega) w1 (fun j j0 j1 => er j (by omega) (by omega) (by omega))
  obtain ⟨⟨q1, q2, q3, q4, q5, q6⟩, qm, qp⟩ := hV
  refine ⟨⟨⟨⟨by omega, ?_, ?_, ?_, ?_, ?_⟩, fun i i0 i1 => ?_, fun p p0 p1 => ?_⟩, fun p p0 p1 i i0 i1 => ?_, fun p p0 p1 hs => ?_⟩, eo 1 (by omega) (by omega), eo 2 (by omega) (by omega), fun j hj => eo j (by omega) (by omega)⟩
  · rw [eo 1 (by omega) (by omega)]; exact q2
  · rw [eo 3 (by omega) (by omega)]; exact q3
  · rw [eo 4 (by omega) (by omega)]; exact q4
  · rw [eo 5 (by omega) (by omega)]; exact q5
  · rw [eo 6 (by omega) (by omega)]; exact q6
  · rw [eo _ (by omega) (by omega)]; exact qm i i0 i1
  · by_cases x : p = V 0
    · subst x
      obtain ⟨d1, d2, d3, d4⟩ := hD
      refine ⟨⟨by omega, by omega, by omega, by omega, by omega, fun _ => by omega⟩, fun k k0 k1 => ?_, fun k hk => d2 k (by omega), by rw [eL]; exact d3⟩
      by_cases y : k < w
      · exact d1 k k0 y
      · have := d4 k (by omega) k1
        omega
    · have : p < V 0 ∨ V 0 + 1 ≤ p := by omega
      exact (qp p p0 p1).cg (fun j j0 j1 => eo j (by omega) (by omega)) (fun y => by omega)
  · have : V 0 + 1 ≤ p := by omega
    rw [eo _ (by omega) (by omega)]
    exact hz.1 p (by omega) p1 i i0 i1
  · by_cases x : p = V 0
    · rw [x]; exact eC
    · have : p < V 0 ∨ V 0 + 1 ≤ p := by omega
      unfold zS at hs
      unfold zC
      rw [eo _ (by omega) (by omega)] at hs ⊢
      exact hz.2 p p0 p1 hs
theorem up_wf (hV : WF V) (hz : ZQ V) {i x : Int} (hi : (i = 3 ∧ 0 ≤ x ∧ x ≤ 100) ∨ ((i = 4 ∨ i = 5) ∧ 0 ≤ x ∧ x ≤ 9999) ∨ (8 ≤ i ∧ i < 12 ∧ 0 ≤ x ∧ x ≤ 2)) : HK V (upV V i x) := by
  refine ⟨⟨hV.of ?_ (fun r r0 r1 => ?_) (fun q q0 q1 => ?_) (fun q q0 q1 => ⟨upV_ne (by omega), fun j j0 j1 => upV_ne (by omega)⟩), hz.up hV (by omega) (Or.inl (by omega))⟩, upV_ne (by omega), upV_ne (by omega), fun j hj => upV_ne (by omega)⟩
  · obtain ⟨⟨q1, q2, q3, q4, q5, q6⟩, _, _⟩ := hV
    unfold hdS upV
    refine ⟨?_, ?_, ?_, ?_, ?_, ?_⟩
    · rw [if_neg (by omega)]; exact q1
    · rw [if_neg (by omega)]; exact q2
    · by_cases c : (3 : Int) = i
      · rw [if_pos c]; omega
      · rw [if_neg c]; exact q3
    · by_cases c : (4 : Int) = i
      · rw [if_pos c]; omega
      · rw [if_neg c]; exact q4
    · by_cases c : (5 : Int) = i
      · rw [if_pos c]; omega
      · rw [if_neg c]; exact q5
    · rw [if_neg (by omega)]; exact q6
  · by_cases c : 8 + r = i
    · rw [c, upV_eq]; omega
    · rw [upV_ne c]; exact hV.2.1 r r0 r1
  · have := (hV.2.2 q q0 q1).1
    unfold pnS zL zB zG zS zC at *
    rw [upV_ne (by omega), upV_ne (by omega), upV_ne (by omega), upV_ne (by omega), upV_ne (by omega), upV_ne (by omega)]
    exact this
theorem ln_wf (hV : WF V) (hz : ZQ V) (h : (lnR S N V a).1 = true) : HK V (lnR S N V a).2.2 := by
  unfold lnR at h ⊢
  have one : ∀ i hi, ((i = 3 ∧ hi = 100) ∨ ((i = 4 ∨ i = 5) ∧ hi = 999)) → (nmR S N V a i hi).1 = true → HK V (nmR S N V a i hi).2.2 := fun i hi hh z => by
    unfold nmR at z ⊢
    by_cases y : isN S N (a + 1) 0 hi
    · rw [if_pos y]
      have y2 := y.2
      exact up_wf hV hz (by omega)
    · rw [if_neg y] at z
      exact absurd z Bool.false_ne_true
  by_cases c1 : S a = 1010
  · rw [if_pos c1] at h ⊢; exact oa_wf hV hz h
  rw [if_neg c1] at h ⊢
  by_cases c2 : S a = 1013
  · rw [if_pos c2] at h ⊢
    unfold moR at h ⊢
    by_cases y : isN S N (a + 1) 0 3
    · rw [if_pos y] at h ⊢
      by_cases y2 : isN S N (a + 2) 0 2
      · rw [if_pos y2]
        have a1 := y.2
        have a2 := y2.2
        exact up_wf hV hz (by omega)
      · rw [if_neg y2] at h; exact absurd h Bool.false_ne_true
    · rw [if_neg y] at h; exact absurd h Bool.false_ne_true
  rw [if_neg c2] at h ⊢
  by_cases c3 : S a = 1014
  · rw [if_pos c3] at h ⊢; exact one _ _ (by decide) h
  rw [if_neg c3] at h ⊢
  by_cases c4 : S a = 1015
  · rw [if_pos c4] at h ⊢; exact one _ _ (by decide) h
  rw [if_neg c4] at h ⊢
  by_cases c5 : S a = 1016
  · rw [if_pos c5] at h ⊢; exact one _ _ (by decide) h
  rw [if_neg c5] at h
  exact absurd h Bool.false_ne_true
theorem HK.trans {V V1 V2 : VV} (h : HK V V1) (h' : HK V1 V2) : HK V V2 := ⟨h'.1, by rw [h'.2.1, h.2.1], by rw [h'.2.2.1, h.2.2.1], fun j hj => by rw [h'.2.2.2 j hj, h.2.2.2 j hj]⟩
theorem HK.refl {V : VV} (hV : WF V) (hz : ZQ V) : HK V V := ⟨⟨hV, hz⟩, rfl, rfl, fun _ _ => rfl⟩
theorem tx_wf : ∀ (f : Nat) (V : VV) (a : Int), WF V → ZQ V → (txR S N f V a).1 = true → HK V (txR S N f V a).2.2 := by
  intro f
  induction f with
  | zero => intro V a hV hz h; exact absurd h Bool.false_ne_true
  | succ f ih =>
    intro V a hV hz h
    have hl := ln_wf (S := S) (N := N) (a := a) hV hz
    unfold txR at h ⊢
    generalize lnR S N V a = r at h hl ⊢
    simp only at h ⊢
    by_cases z : r.1 = true
    · rw [if_pos z] at h ⊢
      by_cases c : S r.2.1 = 1037
      · rw [if_pos c]; exact hl z
      · rw [if_neg c] at h ⊢
        by_cases c2 : S r.2.1 = 1030
        · rw [if_pos c2] at h ⊢
          have k := hl z
          exact k.trans (ih _ _ k.1.1 k.1.2 h)
        · rw [if_neg c2] at h
          exact absurd h Bool.false_ne_true
    · rw [if_neg z] at h
      exact absurd h z
theorem hi_wf (hV : WF V) (hz : ZQ V) (h : (hiR S N V).1 = true) : HK V (hiR S N V).2.2 := by
  unfold hiR at h ⊢
  by_cases c : S 0 = 1037
  · rw [if_pos c]; exact HK.refl hV hz
  · rw [if_neg c] at h ⊢; exact tx_wf 14 V 0 hV hz h
end HW
