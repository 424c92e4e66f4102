/-! A READING'S WEIGHT: the class's side -/
def fcS (p : Int) (c : CL) (n wh : Int) : Int → Int := fun i => if i = 0 then p else if i = 1 then c 0 else if i = 2 then c 1 else if i = 3 then iBC (c 2) else if i = 4 then c 3 else if i = 5 then iBC (c 4) else if i = 6 then n else if i = 7 then wh else if i = 8 then c 5 else if c 0 = 0 then 1 else 0
def wgS (W : VV) (c : CL) (fc : Int → Int) : Int := if c 0 = 0 then 0 else iMax 0 (baC c + sL W fc 0 (W 486).toNat - sL W fc 1 (W 486).toNat)
def hrS (W : VV) (fc : Int → Int) : Int := 1 + sL W fc 2 (W 486).toNat
def sW (a j : Int) : Prop := cW a ∨ a = 155 ∨ a = 156 ∨ a = 37 ∨ (a = 35 ∧ 5 ≤ j)
def onlyS (g g' : GG) : Prop := ∀ a j, ¬ sW a j → g' a j = g a j
/-- what is told of a reading -/
def TL (g : GG) (c : CL) (w h : Int) : Prop := (∀ f, 0 ≤ f → f < 6 → g 156 f = c f) ∧ g 156 6 = w ∧ g 156 7 = h
theorem okF_fcS {p : Int} {c : CL} {n wh : Int} (hc : okC c) (hw : wh = 0 ∨ wh = 1) : okF (fcS p c n wh) := by
  intro i i0 i1
  obtain ⟨o0, o1, o2, o3, o4, o5⟩ := hc
  have : i = 7 ∨ i = 8 ∨ i = 9 := by omega
  rcases this with rfl | rfl | rfl
  · exact hw
  · show c 5 = 0 ∨ c 5 = 1
    omega
  · show (if c 0 = 0 then (1 : Int) else 0) = 0 ∨ (if c 0 = 0 then (1 : Int) else 0) = 1
    omega
theorem wgS_rng {W : VV} (hW : okLaw W) {c : CL} (hc : okC c) (fc : Int → Int) : 0 ≤ wgS W c fc ∧ wgS W c fc ≤ 599 := by
  have h1 := hW.1
  have a := sL_rng hW fc 0 (W 486).toNat (by omega)
  have b := sL_rng hW fc 1 (W 486).toNat (by omega)
  have e := baC_rng hc
  unfold wgS
  by_cases q : c 0 = 0
  · rw [if_pos q]; omega
  · rw [if_neg q, iMax_id (by omega) (by omega) (by omega) (by omega)]
    omega
theorem hrS_rng {W : VV} (hW : okLaw W) (fc : Int → Int) : 1 ≤ hrS W fc ∧ hrS W fc ≤ 481 := by
  have h1 := hW.1
  have a := sL_rng hW fc 2 (W 486).toNat (by omega)
  unfold hrS
  omega
section JW
variable {Γ : Cfg} {l : Launch} {d b : Nat} {g : GG} {K : Ou → HP → Prop} {W V : VV} {t p : Int}
theorem k_judge {n wh : Int} {c : CL} (h : LRel g 35 W) (hW : okLaw W) (hc : clA g 154 c) (ho : okC c) (hwh : wh = 0 ∨ wh = 1)
    (kk : ∀ g', TL g' c (wgS W c (fcS p c n wh)) (hrS W (fcS p c n wh)) → onlyS g g' → K (.inl (vI (wgS W c (fcS p c n wh)))) (stt g')) : Ct Γ l (d + 2) b yX7_judge mX7_judge [vR 153, vI p, vI n, vI wh] (stt g) K := by
  have c0 : g 154 2 = c 0 := hc 0 (by decide) (by decide)
  have c1 : g 154 3 = c 1 := hc 1 (by decide) (by decide)
  have c2 : g 154 4 = c 2 := hc 2 (by decide) (by decide)
  have c3 : g 154 5 = c 3 := hc 3 (by decide) (by decide)
  have c4 : g 154 6 = c 4 := hc 4 (by decide) (by decide)
  have c5 : g 154 7 = c 5 := hc 5 (by decide) (by decide)
  have o0 := ho.1
  have l155 : ln 155 = 10 := by decide +kernel
  have l156 : ln 156 = 8 := by decide +kernel
  have p5 : ∀ {g : GG} {i v : Int}, 0 ≤ i → i < 10 → puc g 155 i v = upd2 g 155 i v := fun h0 h1 => puc_in h0 (by rw [l155]; exact h1)
  have p6 : ∀ {g : GG} {i v : Int}, 0 ≤ i → i < 8 → puc g 156 i v = upd2 g 156 i v := fun h0 h1 => puc_in h0 (by rw [l156]; exact h1)
  -- the facts are laid one by one
  have n5 : ∀ {g : GG} {i v j : Int}, upd2 g 155 i v 154 j = g 154 j := fun {g i v j} => upd2_ne (by decide)
  have mid : ∀ g3 : GG, (∀ a j, a ≠ 155 → g3 a j = g a j) → (∀ i, 0 ≤ i → i < 6 → g3 155 i = fcS p c n wh i) → AW Γ l mX7_judge (d + 2) b 115 [vR 153, vI p, vI n, vI wh, vU] [vI wh, vI 7, vR 155] (stt (puc g3 155 6 n)) K := by
    intro g3 hg hfa
    apply wpX7_judge_115
    intro g4 e4
    rw [p5 (by decide) (by decide), p5 (by decide) (by decide), p5 (by decide) (by decide)] at e4
    rw [n5, n5, hg _ _ (by decide), c5] at e4
    have f2 : g4 154 2 = c 0 := by rw [e4, n5, n5, n5, hg _ _ (by decide), c0]
    rw [f2, wr_id (x := c 0) (by omega) (by omega)]
    have fin : ∀ v9, v9 = (if c 0 = 0 then (1 : Int) else 0) → AW Γ l mX7_judge (d + 2) b 155 [vR 153, vI p, vI n, vI wh, vU] [vI v9, vI 9, vR 155] (stt g4) K := by
      intro v9 ev
      apply wpX7_judge_155
      rw [p5 (by decide) (by decide)]
      have hon : ∀ a j, a ≠ 155 → (upd2 g4 155 9 v9) a j = g a j := fun a j ha => by rw [upd2_ne ha, e4, upd2_ne ha, upd2_ne ha, upd2_ne ha, hg a j ha]
      have hfc : ∀ i, 0 ≤ i → i ≤ 9 → cel (upd2 g4 155 9 v9) 155 i = fcS p c n wh i := by
        intro i i0 i1
        rw [cel_in i0 (by rw [l155]; omega)]
        by_cases q9 : i = 9
        · rw [q9, upd2_eq, ev]; rfl
        rw [upd2_nj q9, e4]
        by_cases q8 : i = 8
        · rw [q8, upd2_eq]; rfl
        rw [upd2_nj q8]
        by_cases q7 : i = 7
        · rw [q7, upd2_eq]; rfl
        rw [upd2_nj q7]
        by_cases q6 : i = 6
        · rw [q6, upd2_eq]; rfl
        rw [upd2_nj q6]
        exact hfa i i0 (by omega)
      refine k_ljudge (h.fr (fun j hj => hon _ _ (by decide)) (fun j => hon _ _ (by decide))) hW (okF_fcS (p := p) (n := n) ho hwh) hfc fun g5 a5 a6 a7 hj => bV_in ?_
      have cj : ∀ j, g5 154 j = g 154 j := fun j => by rw [hj _ _ (by decide) (by omega), hon _ _ (by decide)]
      have hc5 : clA g5 154 c := fun f f0 f1 => by rw [cj]; exact hc f f0 f1
      have hon5 : ∀ a j, ¬ sW a j → g5 a j = g a j := fun a j hs => by
        have h1 : a ≠ 155 := fun e => hs (Or.inr (Or.inl e))
        have h2 : a ≠ 37 := fun e => hs (Or.inr (Or.inr (Or.inr (Or.inl e))))
        rw [hj _ _ h2 (fun e => hs (Or.inr (Or.inr (Or.inr (Or.inr e))))), hon _ _ h1]
      have out : ∀ w, w = wgS W c (fcS p c n wh) → AW Γ l mX7_judge (d + 2) b 210 [vR 153, vI p, vI n, vI wh, vU] [vI w] (stt g5) K := by
        intro w ew
        apply wpX7_judge_210
        intro g6 e6 g7 e7 g8 e8 g9 e9
        rw [p6 (by decide) (by decide), p6 (by decide) (by decide), cj, upd2_ne (by decide), cj, c0, c1] at e6
        have m6 : ∀ j, g6 154 j = g 154 j := fun j => by rw [e6, upd2_ne (by decide), upd2_ne (by decide), cj]
        rw [p6 (by decide) (by decide), p6 (by decide) (by decide), m6, upd2_ne (by decide), m6, c2, c3] at e7
        have m7 : ∀ j, g7 154 j = g 154 j := fun j => by rw [e7, upd2_ne (by decide), upd2_ne (by decide), m6]
        rw [p6 (by decide) (by decide), p6 (by decide) (by decide), m7, upd2_ne (by decide), m7, c4, c5] at e8
        have m8 : g8 35 7 = sL W (fcS p c n wh) 2 (W 486).toNat := by
          rw [e8, upd2_ne (by decide), upd2_ne (by decide), e7, upd2_ne (by decide), upd2_ne (by decide), e6, upd2_ne (by decide), upd2_ne (by decide), a7]
        rw [p6 (by decide) (by decide), p6 (by decide) (by decide), upd2_ne (by decide), m8] at e9
        subst ew
        refine kk g9 ⟨fun f f0 f1 => ?_, ?_, ?_⟩ fun a j hs => ?_
        · have hf : f = 0 ∨ f = 1 ∨ f = 2 ∨ f = 3 ∨ f = 4 ∨ f = 5 := by omega
          rcases hf with rfl | rfl | rfl | rfl | rfl | rfl
          · rw [e9, upd2_nj (by decide), upd2_nj (by decide), e8, upd2_nj (by decide), upd2_nj (by decide), e7, upd2_nj (by decide), upd2_nj (by decide), e6, upd2_nj (by decide), upd2_eq]
          · rw [e9, upd2_nj (by decide), upd2_nj (by decide), e8, upd2_nj (by decide), upd2_nj (by decide), e7, upd2_nj (by decide), upd2_nj (by decide), e6, upd2_eq]
          · rw [e9, upd2_nj (by decide), upd2_nj (by decide), e8, upd2_nj (by decide), upd2_nj (by decide), e7, upd2_nj (by decide), upd2_eq]
          · rw [e9, upd2_nj (by decide), upd2_nj (by decide), e8, upd2_nj (by decide), upd2_nj (by decide), e7, upd2_eq]
          · rw [e9, upd2_nj (by decide), upd2_nj (by decide), e8, upd2_nj (by decide), upd2_eq]
          · rw [e9, upd2_nj (by decide), upd2_nj (by decide), e8, upd2_eq]
        · rw [e9, upd2_nj (by decide), upd2_eq]
        · rw [e9, upd2_eq]; rfl
        · have h6 : a ≠ 156 := fun e => hs (Or.inr (Or.inr (Or.inl e)))
          rw [e9, upd2_ne h6, upd2_ne h6, e8, upd2_ne h6, upd2_ne h6, e7, upd2_ne h6, upd2_ne h6, e6, upd2_ne h6, upd2_ne h6, hon5 a j hs]
      rw [cj, c0, wr_id (x := c 0) (by omega) (by omega)]
      refine ⟨fun hq => ?_, fun hq => out 0 ?_⟩
      · refine k_base (show CU 154 from (oid_cu (n := 0) (by decide)).1) hc5 ho (bI_in ?_)
        rw [a5, a6]
        refine out _ ?_
        unfold wgS
        rw [if_neg hq]
      · unfold wgS
        rw [if_pos (by omega)]
    refine ⟨fun hq => fin 0 (by rw [if_neg hq]), fun hq => fin 1 (by rw [if_pos (by omega)])⟩
  apply wpX7_judge
  intro g1 e1 g2 e2 g3 e3
  rw [p5 (by decide) (by decide), p5 (by decide) (by decide), n5, c0] at e1
  have m1 : ∀ j, g1 154 j = g 154 j := fun j => by rw [e1, n5, n5]
  rw [p5 (by decide) (by decide), p5 (by decide) (by decide), m1, n5, m1, c1, c2] at e2
  have m2 : ∀ j, g2 154 j = g 154 j := fun j => by rw [e2, n5, n5, m1]
  rw [p5 (by decide) (by decide), p5 (by decide) (by decide), m2, n5, m2, c3, c4] at e3
  have r1 : ∀ a j, a ≠ 155 → g3 a j = g a j := fun a j ha => by rw [e3, upd2_ne ha, upd2_ne ha, e2, upd2_ne ha, upd2_ne ha, e1, upd2_ne ha, upd2_ne ha]
  have r2 : ∀ i, 0 ≤ i → i < 6 → g3 155 i = fcS p c n wh i := by
    intro i i0 i1
    have hf : i = 0 ∨ i = 1 ∨ i = 2 ∨ i = 3 ∨ i = 4 ∨ i = 5 := by omega
    rcases hf with rfl | rfl | rfl | rfl | rfl | rfl
    · rw [e3, upd2_nj (by decide), upd2_nj (by decide), e2, upd2_nj (by decide), upd2_nj (by decide), e1, upd2_nj (by decide)]; exact upd2_eq
    · rw [e3, upd2_nj (by decide), upd2_nj (by decide), e2, upd2_nj (by decide), upd2_nj (by decide), e1]; exact upd2_eq
    · rw [e3, upd2_nj (by decide), upd2_nj (by decide), e2, upd2_nj (by decide)]; exact upd2_eq
    · rw [e3, upd2_nj (by decide), upd2_nj (by decide), e2]; exact upd2_eq
    · rw [e3, upd2_nj (by decide)]; exact upd2_eq
    · rw [e3]; exact upd2_eq
  rcases hwh with rfl | rfl
  · exact ⟨fun _ => mid g3 r1 r2, fun hq => absurd wr_0 hq⟩
  · exact ⟨fun hq => absurd hq (by decide +kernel), fun _ => mid g3 r1 r2⟩
/-- a person's first words read -/
def rdV (V : VV) (p n : Int) : CL := rdC (zW V p) n.toNat (fun i => V (8 + i))
def fcV (V : VV) (p n : Int) : Int → Int := fcS p (rdV V p n) n (if n = zL V p then 1 else 0)
def wV (V W : VV) (p n : Int) : Int := wgS W (rdV V p n) (fcV V p n)
def hV (V W : VV) (p n : Int) : Int := hrS W (fcV V p n)
theorem WF.okW (hV : WF V) (p0 : 0 ≤ p) (p1 : p < 6) {n : Nat} (h : n ≤ 12) : okW (zW V p) n := fun k hk => hV.kn p0 p1 (by omega) (by omega)
theorem WF.okN (hV : WF V) (p0 : 0 ≤ p) (p1 : p < 6) {n : Nat} (h : (n : Int) ≤ zL V p) : okN (zW V p) n := fun k hk => (hV.po p0 p1).2.2.1 k (by omega)
theorem WF.okR (hV : WF V) (p0 : 0 ≤ p) (p1 : p < 6) {n : Int} (n0 : 0 ≤ n) (n1 : n ≤ zL V p) : okC (rdV V p n) := by
  have := hV.pn p0 p1
  exact okC_rd (hV.okW p0 p1 (by omega)) (hV.okN p0 p1 (by omega)) _
theorem wV_rng (hV : WF V) (hW : okLaw W) (p0 : 0 ≤ p) (p1 : p < 6) {n : Int} (n0 : 0 ≤ n) (n1 : n ≤ zL V p) : 0 ≤ wV V W p n ∧ wV V W p n ≤ 599 := wgS_rng hW (hV.okR p0 p1 n0 n1) _
theorem k_weight {n : Int} (h : HRel g t V) (hV9 : WF V) (hL : LRel g 35 W) (hW : okLaw W) (p0 : 0 ≤ p) (p1 : p < 6) (n0 : 0 ≤ n) (n1 : n ≤ zL V p)
    (kk : ∀ g', TL g' (rdV V p n) (wV V W p n) (hV V W p n) → onlyS g g' → K (.inl (vI (wV V W p n))) (stt g')) : Ct Γ l (d + 3) b yX7_weight mX7_weight [vR 153, vR t, vI p, vI n] (stt g) K := by
  have hp := hV9.pn p0 p1
  have hr := h.hi.rng
  have hok := hV9.okR p0 p1 n0 n1
  obtain ⟨m, rfl⟩ : ∃ m : Nat, n = m := ⟨n.toNat, by omega⟩
  apply wpX7_weight h.hi
  have q1 : ¬ cW (t + 1 + 0) := by unfold cW; omega
  have q2 : ¬ cW (t + 1 + 6) := by unfold cW; omega
  refine k_readWords (f := zW V p) (md := fun i => V (8 + i)) h.hi.a0 h.hi.a6 q1 q2 (fun i i0 i1 => ⟨h.cM i0 i1, hV9.2.1 i i0 i1⟩) (by omega) (hV9.okW p0 p1 (by omega)) (hV9.okN p0 p1 n1) (fun k hk => h.cW p0 p1 (by omega) (by omega)) fun g1 hc hon => bV_in ?_
  have h1 : HRel g1 t V := h.fr fun a j a0 a1 => hon _ _ (by unfold cW; omega)
  have hL1 : LRel g1 35 W := hL.fr (fun j _ => hon _ _ (by unfold cW; omega)) (fun j => hon _ _ (by unfold cW; omega))
  have tr : ∀ g2, onlyS g1 g2 → onlyS g g2 := fun g2 h2 a j hs => by rw [h2 a j hs, hon a j (fun e => hs (Or.inl e))]
  rw [h1.cL p0 p1, wr_id (x := (m : Int)) (by omega) (by omega), wr_id (x := zL V p) (by omega) (by omega)]
  have e0 : rdC (zW V p) m (fun i => V (8 + i)) = rdV V p m := by unfold rdV; rw [Int.toNat_natCast]
  rw [e0] at hc
  refine ⟨fun hq => ?_, fun hq => ?_⟩
  · have ef : fcV V p m = fcS p (rdV V p m) m 0 := by unfold fcV; rw [if_neg hq]
    unfold wV hV at kk
    rw [ef] at kk
    exact k_judge hL1 hW hc hok (Or.inl rfl) fun g2 ht ho2 => bI_in (kk g2 ht (tr g2 ho2))
  · have ef : fcV V p m = fcS p (rdV V p m) m 1 := by unfold fcV; rw [if_pos (by omega)]
    unfold wV hV at kk
    rw [ef] at kk
    exact k_judge hL1 hW hc hok (Or.inr rfl) fun g2 ht ho2 => bI_in (kk g2 ht (tr g2 ho2))
end JW
