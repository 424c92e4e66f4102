/-! THE COURSE of hours: the class's side -/
def heldT (V : VV) (p many how : Int) : VV := zNote (setS V p 2 many) p how many (wV (setS V p 2 many) (setS V p 2 many) p many)
def othS (V : VV) (p : Int) : Prop := iAnd (btS V 1) (iXor (iShl 1 p) (-1)) ≠ 0
def manyS (V : VV) (p kind : Int) : Int := if kind = 2 then (if 0 < zC V p - 1 then zC V p - 1 else 0) else if kind = 3 then (if 0 < zC V p - 2 then zC V p - 2 else 0) else if kind = 4 ∧ iAnd (btS V 1) (iXor (iShl 1 p) (-1)) ≠ 0 then 0 else zC V p
def brkV (V : VV) (p kind : Int) : VV := if kind = 1 then zNote V p 1 (zC V p) (wV V V p (zC V p)) else heldT V p (manyS V p kind) kind
def brkR (V : VV) (p kind : Int) : Int := if kind = 1 then -1 else manyS V p kind
/-- what lets ears hear of one that is held -/
def heardS (V : VV) (p : Int) : Int := hV V V p (zC V p)
def onlyT (g g' : GG) (t : Int) : Prop := ∀ a j, ¬ sW a j → (a < t ∨ t + 8 < a) → g' a j = g a j
theorem onlyT.tr {g g1 g2 : GG} {t : Int} (h : onlyT g g1 t) (h2 : onlyT g1 g2 t) : onlyT g g2 t := fun a j hs ha => by rw [h2 a j hs ha, h a j hs ha]
theorem onlyS.t {g g1 : GG} {t : Int} (h : onlyS g g1) : onlyT g g1 t := fun a j hs _ => h a j hs
theorem onlyH.t {g g1 : GG} {t : Int} (h : onlyH g g1 t) : onlyT g g1 t := fun a j _ ha => h a j ha
theorem manyS_rng {V : VV} (hV : WF V) {p : Int} (p0 : 0 ≤ p) (p1 : p < 6) (kind : Int) : 0 ≤ manyS V p kind ∧ manyS V p kind ≤ zL V p := by
  have := hV.pn p0 p1
  unfold manyS
  by_cases q : kind = 4 ∧ iAnd (btS V 1) (iXor (iShl 1 p) (-1)) ≠ 0
  · rw [if_pos q]; omega
  · rw [if_neg q]; omega
theorem heldT_ne {V : VV} {p many how j : Int} (h3 : j ≠ 12 + 29 * p + 3) (h4 : j ≠ 12 + 29 * p + 4) (h6 : j ≠ 6) (h : j < 186 ∨ 486 ≤ j) : heldT V p many how j = V j := by
  unfold heldT
  rw [zNote_ne h6 h, setS_ne h3 h4]
theorem heldT_s {V : VV} {p many how : Int} (p0 : 0 ≤ p) (p1 : p < 6) : zS (heldT V p many how) p = 2 ∧ zC (heldT V p many how) p = many := by
  unfold heldT
  have a4 : ∀ x, zS (zNote (setS V p 2 many) p how many x) p = zS (setS V p 2 many) p := fun x => zNote_ne (by omega) (by omega)
  have a5 : ∀ x, zC (zNote (setS V p 2 many) p how many x) p = zC (setS V p 2 many) p := fun x => zNote_ne (by omega) (by omega)
  rw [a4, a5, setS_s, setS_c]
  exact ⟨rfl, rfl⟩
theorem WF.hld {V : VV} (h : WF V) {p many how : Int} (p0 : 0 ≤ p) (p1 : p < 6) (m0 : 0 ≤ many) (m1 : many ≤ zL V p) : WF (heldT V p many how) := (h.set p0 p1 (by decide) (by decide) m0 m1).nte _ _ _ _
theorem brkV_ne {V : VV} {p kind j : Int} (h3 : j ≠ 12 + 29 * p + 3) (h4 : j ≠ 12 + 29 * p + 4) (h6 : j ≠ 6) (h : j < 186 ∨ 486 ≤ j) : brkV V p kind j = V j := by
  unfold brkV
  by_cases q : kind = 1
  · rw [if_pos q]; exact zNote_ne h6 h
  · rw [if_neg q]; exact heldT_ne h3 h4 h6 h
section KC
variable {Γ : Cfg} {l : Launch} {d b : Nat} {g : GG} {K : Ou → HP → Prop} {V : VV} {t p : Int}
theorem btS_wr (V : VV) (s : Int) : wr (btS V s) = btS V s := fd_ind (P := fun _ x => wr x = x) wr_0 (fun n x hx => by
  by_cases q : zS V n = s
  · simp only [if_pos q, wr_iOr]
  · simp only [if_neg q, hx]) _
theorem k_countBehind {kind : Int} (h : CT g t V) (p0 : 0 ≤ p) (p1 : p < 6) (k0 : 0 ≤ kind) (k1 : kind ≤ 4) (kk : K (.inl (vI (manyS V p kind))) (stt g)) : Ct Γ l (d + 2) b yX1_countBehind mX1_countBehind [vR t, vI p, vI kind, vI (zC V p)] (stt g) K := by
  have hp := h.2.1.pn p0 p1
  apply wpX1_countBehind h.1.hi
  rw [wr_id (x := kind) (by omega) (by omega), iMax_id (x := 0) (by omega) (by omega) (by omega) (by omega), iMax_id (x := 0) (by omega) (by omega) (by omega) (by omega)]
  unfold manyS at kk
  refine ⟨fun q2 => ⟨fun q3 => k_bitsOf h.1 h.2.1 (by decide) (by decide) (bI_in ?_), fun q3 => ?_⟩, fun q2 => ?_⟩
  · rw [if_neg q2, if_neg q3] at kk
    rw [wr_iAnd]
    refine ⟨fun z => ?_, fun z => ⟨fun q4 => ?_, fun q4 => ?_⟩⟩
    · rw [if_neg (fun w => w.2 z)] at kk
      exact ⟨fun _ => kk, fun _ => kk⟩
    · rw [if_neg (fun w => q4 w.1)] at kk; exact kk
    · rw [if_pos ⟨by omega, z⟩] at kk; exact kk
  · rw [if_neg q2, if_pos (by omega)] at kk; exact kk
  · rw [if_pos (by omega)] at kk; exact kk
/-- held, and noted so -/
theorem k_held {many how : Int} (h : CT g t V) (p0 : 0 ≤ p) (p1 : p < 6) (m0 : 0 ≤ many) (m1 : many ≤ zL V p) {F : GG → Prop}
    (kk : ∀ g', CT g' t (heldT V p many how) → g' 156 7 = heardS (heldT V p many how) p → onlyT g g' t → F g') :
    ∀ g1, HRel g1 t (setS V p 2 many) → onlyH g g1 t → ∀ (g2 : GG), TL g2 (rdV (setS V p 2 many) p many) (wV (setS V p 2 many) (setS V p 2 many) p many) (hV (setS V p 2 many) (setS V p 2 many) p many) → onlyS g1 g2 → ∀ g3, HRel g3 t (heldT V p many how) → onlyH g2 g3 t → F g3 := by
  intro g1 h1 o1 g2 t2 o2 g3 h3 o3
  have w1 := h.2.1.set (s := 2) p0 p1 (by decide) (by decide) m0 m1
  have c1 : CT g1 t (setS V p 2 many) := h.up h1 w1 (setS_ne (by omega) (by omega)) (fun j hj => setS_ne (by omega) (by omega)) o1
  have c2 := c1.os o2
  have zl : zL (setS V p 2 many) p = zL V p := setS_ne (by omega) (by omega)
  have c3 : CT g3 t (heldT V p many how) := c2.up h3 (h.2.1.hld p0 p1 m0 m1) (zNote_ne (by decide) (by decide)) (fun j hj => zNote_ne (by omega) (by omega)) o3
  have hr := h.1.hi.rng
  refine kk g3 c3 ?_ ((o1.t.tr o2.t).tr o3.t)
  rw [o3 _ _ (by omega), t2.2.2]
  unfold heardS
  rw [(heldT_s p0 p1).2]
  have := (rd_cg w1 c1.2.2.2 (zNote_same (w := how) (m := many) (x := wV (setS V p 2 many) (setS V p 2 many) p many) (p := p) p p0 p1) p0 p1 m0 (by rw [zl]; exact m1)).2.2
  exact this.symm
theorem k_breakIn {kind : Int} (h : CT g t V) (p0 : 0 ≤ p) (p1 : p < 6) (k0 : 0 ≤ kind) (k1 : kind ≤ 4) (kk : ∀ g', CT g' t (brkV V p kind) → (kind ≠ 1 → g' 156 7 = heardS (brkV V p kind) p) → onlyT g g' t → K (.inl (vI (brkR V p kind))) (stt g')) : Ct Γ l (d + 4) b yX1_breakIn mX1_breakIn [vR 160, vR t, vI p, vI kind] (stt g) K := by
  have hp := h.2.1.pn p0 p1
  have hm := manyS_rng h.2.1 p0 p1 kind
  apply wpX1_breakIn h.1.hi
  rw [h.1.cC p0 p1, wr_id (x := kind) (by omega) (by omega)]
  unfold brkV brkR at kk
  refine ⟨fun q => ?_, fun q => ?_⟩
  · simp only [if_neg q] at kk
    refine k_countBehind h p0 p1 k0 k1 (bI_in ?_)
    refine k_settle h.1 h.2.1 p0 p1 fun g1 h1 o1 => bV_in ?_
    have w1 := h.2.1.set (s := 2) p0 p1 (by decide) (by decide) hm.1 hm.2
    have c1 : CT g1 t (setS V p 2 (manyS V p kind)) := h.up h1 w1 (setS_ne (by omega) (by omega)) (fun j hj => setS_ne (by omega) (by omega)) o1
    have zl : zL (setS V p 2 (manyS V p kind)) p = zL V p := setS_ne (by omega) (by omega)
    refine k_weight c1.1 c1.2.1 c1.2.2.1 c1.2.2.2 p0 p1 hm.1 (by rw [zl]; exact hm.2) fun g2 t2 o2 => bI_in ?_
    refine k_note (c1.os o2).1 w1 fun g3 h3 o3 => bV_in ?_
    exact k_held h p0 p1 hm.1 hm.2 (F := fun g' => K (.inl (vI (manyS V p kind))) (stt g')) (fun g' a1 a2 a3 => kk g' a1 (fun _ => a2) a3) g1 h1 o1 g2 t2 o2 g3 h3 o3
  · have q1 : kind = 1 := by omega
    simp only [if_pos q1] at kk
    refine k_weight h.1 h.2.1 h.2.2.1 h.2.2.2 p0 p1 hp.2.2.2.2.1.1 hp.2.2.2.2.1.2 fun g2 t2 o2 => bI_in ?_
    refine k_note (h.os o2).1 h.2.1 fun g3 h3 o3 => bV_in ?_
    exact kk g3 ((h.os o2).up h3 (h.2.1.nte _ _ _ _) (zNote_ne (by decide) (by decide)) (fun j hj => zNote_ne (by omega) (by omega)) o3) (fun z => absurd q1 z) (o2.t.tr o3.t)
theorem k_letFinish (h : CT g t V) (p0 : 0 ≤ p) (p1 : p < 6) (kk : ∀ g', CT g' t (heldT V p (zL V p) 5) → g' 156 7 = heardS (heldT V p (zL V p) 5) p → onlyT g g' t → K (.inl (vI (wV (setS V p 2 (zL V p)) (setS V p 2 (zL V p)) p (zL V p)))) (stt g')) : Ct Γ l (d + 4) b yX1_letFinish mX1_letFinish [vR 160, vR t, vI p] (stt g) K := by
  have hp := h.2.1.pn p0 p1
  have w1 := h.2.1.set (s := 2) p0 p1 (by decide) (by decide) hp.1.1 (Int.le_refl _)
  have zl : zL (setS V p 2 (zL V p)) p = zL V p := setS_ne (by omega) (by omega)
  apply wpX1_letFinish h.1.hi
  rw [h.1.cL p0 p1]
  refine k_settle h.1 h.2.1 p0 p1 fun g1 h1 o1 => bV_in ?_
  have c1 : CT g1 t (setS V p 2 (zL V p)) := h.up h1 w1 (setS_ne (by omega) (by omega)) (fun j hj => setS_ne (by omega) (by omega)) o1
  refine k_weight c1.1 c1.2.1 c1.2.2.1 c1.2.2.2 p0 p1 hp.1.1 (by rw [zl]; exact Int.le_refl _) fun g2 t2 o2 => bI_in ?_
  refine k_note (c1.os o2).1 w1 fun g3 h3 o3 => bV_in ?_
  exact k_held h p0 p1 hp.1.1 (Int.le_refl _) (F := fun g' => K (.inl (vI (wV (setS V p 2 (zL V p)) (setS V p 2 (zL V p)) p (zL V p)))) (stt g')) (fun g' a1 a2 a3 => kk g' a1 a2 a3) g1 h1 o1 g2 t2 o2 g3 h3 o3
end KC
