/-! A TEXT OF THE HILLS: the class's reader, lines -/
section HS
variable {Γ : Cfg} {l : Launch} {d b : Nat} {g : GG} {K : Ou → HP → Prop} {T S P N : Int → Int} {L n p e x y a lo hi : Int} {V : VV}
theorem k_extra {s c : Int} (hs : SG s) (c0 : c = 2 ∨ c = 3) (l0 : 0 ≤ lo) (l9 : lo ≤ 9) (hS : TS T L n S P N) (p0 : 0 ≤ p) (p1 : p < 6) (h : HRel g 17 V) (hl : V 6 ≤ 60) (hq : CQ g n S P N) (hp : CP g S P N a) (a0 : 0 ≤ a) (a1 : a ≤ n) (hs7 : s ≠ 1037) (kk : KH g n S P N (exR S N s lo (12 + 29 * p + (c - 1)) V a) K) : Ct Γ l (d + 2) b yX3_readExtra mX3_readExtra [vR 4, vR s, vI lo, vR (17 + 1 + c), vI p] (stt g) K := by
  have w0 : wr 0 = 0 := by decide +kernel
  have w1 : wr 1 = 1 := by decide +kernel
  have ia : IA (17 + 1 + c) := by
    rcases c0 with rfl | rfl
    · exact (show (shp 20).1 = 0 by decide +kernel)
    · exact (show (shp 21).1 = 0 by decide +kernel)
  have ll : ln (17 + 1 + c) = 6 := by
    rcases c0 with rfl | rfl
    · exact h.hi.l2
    · exact h.hi.l3
  apply wpX3_readExtra hs ia
  rw [hp.2.1]
  unfold exR at kk
  refine ⟨hS.sg a0 a1, fun z => ?_, fun z => ?_⟩
  · rw [if_pos z] at kk
    have an : a < n := hS.lt a1 (by omega)
    refine k_st hS hq hp a0 an fun g1 p1' q1 o1 => bV_in ?_
    refine k_tells p1' (hS.sg (by omega) (by omega)) (hS.n9 (by omega) (by omega)) l0 (by decide) l9 (fun y => bI_in ?_) (fun y => bI_in ?_)
    · rw [w1, p1'.2.2.2]
      rw [if_pos (show isN S N (a + 1) lo 9 from y)] at kk
      refine ⟨fun _ => ?_, fun q => absurd (show (1 : Int) ≠ 0 by decide) q⟩
      have an1 : a + 1 < n := hS.lt (by omega) (by omega)
      rw [puc_in p0 (by rw [ll]; exact p1)]
      have oa := oH.at g1 (x := 17 + 1 + c) (j := p) (v := N (a + 1)) (by omega) (by omega)
      have h1 := (h.ot o1).arr (c := c) (v := N (a + 1)) (by omega) (by omega) p0 p1 hl
      refine k_st hS (q1.oh oa) (p1'.h (by omega)) (by omega) an1 fun g2 p2 q2 o2 => bV_in ?_
      rw [show a + 1 + 1 = a + 2 by omega] at p2
      exact kk g2 (o1.oH.trans (oa.trans o2.oH)) p2 (by show 0 ≤ a + 2; omega) (by show a + 2 ≤ n; omega) (fun _ => h1.ot o2)
    · rw [w0]
      rw [if_neg (show ¬ isN S N (a + 1) lo 9 from y)] at kk
      refine ⟨fun q => absurd rfl q, fun _ => ?_⟩
      exact kk g1 o1.oH p1' (by show 0 ≤ a + 1; omega) (by show a + 1 ≤ n; omega) (fun z => absurd z Bool.false_ne_true)
  · rw [if_neg z] at kk
    exact kk g oH.refl hp a0 a1 (fun _ => h)
theorem wd_fr {p : Int} : ∀ (f : Nat) (V : VV) (a w wi : Int), 0 ≤ w → (f : Int) + w = 12 → ∀ j, ¬ (j = 12 + 29 * p ∨ (12 + 29 * p + 5 ≤ j ∧ j < 12 + 29 * p + 29)) → (wdR S N p f V a w wi).2.2 j = V j
  | 0, V, a, w, wi, w0, hf, j, hj => upV_ne (by omega)
  | f + 1, V, a, w, wi, w0, hf, j, hj => by
    have hw : ∀ k x : Int, wvS V p w k x j = V j := fun k x => by
      unfold wvS
      rw [upV_ne (by omega), upV_ne (by omega)]
    unfold wdR
    split
    · exact upV_ne (by omega)
    · split
      · rfl
      · split
        · split
          · rw [wd_fr f _ _ _ _ (by omega) (by omega) j hj, hw]
          · rfl
        · rw [wd_fr f _ _ _ _ (by omega) (by omega) j hj, hw]
theorem k_oath (hS : TS T L n S P N) (h : HRel g 17 V) (hl : V 6 ≤ 60) (v0 : 0 ≤ V 0) (v6 : V 0 ≤ 6) (hq : CQ g n S P N) (hp : CP g S P N a) (a0 : 0 ≤ a) (a1 : a < n) (kk : KH g n S P N (oaR S N V a) K) : Ct Γ l (d + 3) b yX3_readOath mX3_readOath [vR 4, vR 17] (stt g) K := by
  have w0 : wr 0 = 0 := by decide +kernel
  have w1 : wr 1 = 1 := by decide +kernel
  apply wpX3_readOath hi17
  rw [h.ppl, wr_id (x := V 0) (by omega) (by omega)]
  unfold oaR at kk
  refine ⟨fun c => ?_, fun c => ?_⟩
  · rw [if_pos c] at kk
    refine k_st hS hq hp a0 a1 fun g1 p1 q1 o1 => bV_in ?_
    apply wpX3_readWords hi17
    refine k_words hS v0 c 12 V g1 (a + 1) 0 0 vU vU (by decide) (by decide) (h.ot o1) hl q1 p1 (by omega) (by omega) (by decide) (by decide) ?_
    have hf := wd_fr (S := S) (N := N) (p := V 0) 12 V (a + 1) 0 0 (by decide) (by decide)
    have h6 := hf 6 (by omega)
    have h0 := hf 0 (by omega)
    clear hf
    generalize wdR S N (V 0) 12 V (a + 1) 0 0 = r at kk h6 h0 ⊢
    intro g2 o2 p2 r0 rn hr
    simp only at kk
    by_cases z : r.1 = true
    · rw [if_pos z] at kk ⊢
      refine bI_in ?_
      rw [w1]
      refine ⟨fun _ g3 e3 => ?_, fun q => absurd (show (1 : Int) ≠ 0 by decide) q⟩
      have h2 := hr z
      rw [puc_in (r := 17 + 1 + 2) v0 (by rw [h.hi.l2]; exact c), puc_in v0 (by rw [h.hi.l3]; exact c)] at e3
      have h3 := (h2.arr (c := 2) (v := 1) (by decide) (by decide) v0 c (by omega)).arr (c := 3) (v := 0) (by decide) (by decide) v0 c (by rw [upV_ne (by omega)]; omega)
      rw [← e3] at h3
      apply wpX2_settle hi17
      intro g4 e4
      rw [puc_in (r := 17 + 1 + 4) v0 (by rw [h.hi.l4]; exact c), puc_in v0 (by rw [h.hi.l5]; exact c)] at e4
      have h4 := (h3.arr (c := 4) (v := 0) (by decide) (by decide) v0 c (by rw [upV_ne (by omega), upV_ne (by omega)]; omega)).arr (c := 5) (v := 0) (by decide) (by decide) v0 c (by rw [upV_ne (by omega), upV_ne (by omega), upV_ne (by omega)]; omega)
      rw [← e4] at h4
      have e8 : g4 17 8 = V 0 := by rw [e4, upd2_ne (by decide), upd2_ne (by decide), e3, upd2_ne (by decide), upd2_ne (by decide), h2.ppl, h0]
      refine bV_in ?_
      rw [e8]
      have h5 := h4.fld (f := 8) (v := V 0 + 1) (by decide) (by decide) (by rw [upV_ne (by omega), upV_ne (by omega), upV_ne (by omega), upV_ne (by omega)]; omega)
      have q2 := (hq.oh o1.oH).oh o2
      have o5 : oH g2 (upd2 g4 17 8 (V 0 + 1)) := fun x j x1 x2 => by rw [upd2_ne (by omega), e4, upd2_ne (by omega), upd2_ne (by omega), e3, upd2_ne (by omega), upd2_ne (by omega)]
      have p5 : CP (upd2 g4 17 8 (V 0 + 1)) S P N r.2.1 := by
        rw [e4, e3]
        exact ((((p2.h (by decide)).h (by decide)).h (by decide)).h (by decide)).h (by decide)
      have h5 : HRel (upd2 g4 17 8 (V 0 + 1)) 17 (nwP r.2.2 (V 0)) := h5
      have h56 : nwP r.2.2 (V 0) 6 ≤ 60 := by
        unfold nwP setS
        rw [upV_ne (by omega), upV_ne (by omega), upV_ne (by omega), upV_ne (by omega), upV_ne (by omega)]
        omega
      have oo := (o1.oH.trans o2).trans o5
      have q5 := q2.oh o5
      generalize upd2 g4 17 8 (V 0 + 1) = g5 at *
      generalize nwP r.2.2 (V 0) = V5 at *
      refine k_extra (c := 2) ⟨by decide, by decide⟩ (Or.inl rfl) (by decide) (by decide) hS v0 c h5 h56 q5 p5 r0 rn (by decide) ?_
      rw [show 12 + 29 * V 0 + ((2 : Int) - 1) = 12 + 29 * V 0 + 1 by omega]
      have h66 : (exR S N 1011 1 (12 + 29 * V 0 + 1) V5 r.2.1).2.2 6 = V5 6 := by
        unfold exR
        split
        · split
          · exact upV_ne (by omega)
          · rfl
        · rfl
      generalize exR S N 1011 1 (12 + 29 * V 0 + 1) V5 r.2.1 = r2 at kk h66 ⊢
      intro g6 o6 p6 s0 sn hr6
      by_cases y : r2.1 = true
      · rw [if_pos y] at kk ⊢
        refine bI_in ?_
        rw [w1]
        refine ⟨fun q => absurd q (by decide), fun _ => k_extra (c := 3) ⟨by decide, by decide⟩ (Or.inr rfl) (by decide) (by decide) hS v0 c (hr6 y) (by omega) (q5.oh o6) p6 s0 sn (by decide) ?_⟩
        rw [show 12 + 29 * V 0 + ((3 : Int) - 1) = 12 + 29 * V 0 + 2 by omega]
        intro g7 o7 p7 t0 tn hr7
        refine bI_in ?_
        have k7 := kk g7 ((oo.trans o6).trans o7) p7 t0 tn hr7
        by_cases v : (exR S N 1012 0 (12 + 29 * V 0 + 2) r2.2.2 r2.2.1).1 = true
        · rw [if_pos v] at k7 ⊢
          rw [w1]
          exact ⟨fun q => absurd q (by decide), fun _ => k7⟩
        · rw [if_neg v] at k7 ⊢
          rw [w0]
          exact ⟨fun _ => k7, fun q => absurd rfl q⟩
      · rw [if_neg y] at kk ⊢
        refine bI_in ?_
        rw [w0]
        have k6 := kk g6 (oo.trans o6) p6 s0 sn hr6
        rw [if_neg y] at k6
        exact ⟨fun _ => k6, fun q => absurd rfl q⟩
    · rw [if_neg z] at kk ⊢
      refine bI_in ?_
      rw [w0]
      have k2 := kk g2 (o1.oH.trans o2) p2 r0 rn hr
      rw [if_neg z] at k2
      exact ⟨fun q => absurd rfl q, fun _ => k2⟩
  · rw [if_neg c] at kk
    exact kk g oH.refl hp a0 (by show a ≤ n; omega) (fun z => absurd z Bool.false_ne_true)
theorem k_mode9 (hS : TS T L n S P N) (h : HRel g 17 V) (hl : V 6 ≤ 60) (hq : CQ g n S P N) (hp : CP g S P N a) (a0 : 0 ≤ a) (a1 : a < n) (kk : KH g n S P N (moR S N V a) K) : Ct Γ l (d + 2) b yX3_readMode mX3_readMode [vR 4, vR 17] (stt g) K := by
  have w0 : wr 0 = 0 := by decide +kernel
  have w1 : wr 1 = 1 := by decide +kernel
  unfold moR at kk
  apply wpX3_readMode hi17
  refine k_st hS hq hp a0 a1 fun g1 p1 q1 o1 => bV_in ?_
  refine k_tells p1 (hS.sg (by omega) (by omega)) (hS.n9 (by omega) (by omega)) (by decide) (by decide) (by decide) (fun y => bI_in ?_) (fun y => bI_in ?_)
  · rw [w1]
    rw [if_pos (show isN S N (a + 1) 0 3 from y)] at kk
    refine ⟨fun _ => ?_, fun q => absurd (show (1 : Int) ≠ 0 by decide) q⟩
    have an1 : a + 1 < n := hS.lt (by omega) (by omega)
    refine k_st hS q1 p1 (by omega) an1 fun g2 p2 q2 o2 => bV_in ?_
    rw [show a + 1 + 1 = a + 2 by omega] at p2
    refine k_tells p2 (hS.sg (by omega) (by omega)) (hS.n9 (by omega) (by omega)) (by decide) (by decide) (by decide) (fun y2 => bI_in ?_) (fun y2 => bI_in ?_)
    · rw [w1, p1.2.2.2, p2.2.2.2]
      rw [if_pos (show isN S N (a + 2) 0 2 from y2)] at kk
      refine ⟨fun _ g5 e5 => ?_, fun q => absurd (show (1 : Int) ≠ 0 by decide) q⟩
      have an2 : a + 2 < n := hS.lt (by omega) (by omega)
      rw [puc_in (by omega) (by rw [h.hi.l6]; omega)] at e5
      have h5 := ((h.ot o1).ot o2).mod (d := N (a + 1)) (v := N (a + 2)) y.2.1 (by omega) hl
      rw [← e5] at h5
      have o5 : oH g2 g5 := by rw [e5]; exact oH.at g2 (by decide) (by decide)
      have p5 : CP g5 S P N (a + 2) := by rw [e5]; exact p2.h (by decide)
      refine k_st hS (q2.oh o5) p5 (by omega) an2 fun g6 p6 q6 o6 => bV_in ?_
      rw [show a + 2 + 1 = a + 3 by omega] at p6
      exact kk g6 ((o1.oH.trans o2.oH).trans (o5.trans o6.oH)) p6 (by show 0 ≤ a + 3; omega) (by show a + 3 ≤ n; omega) (fun _ => h5.ot o6)
    · rw [w0]
      rw [if_neg (show ¬ isN S N (a + 2) 0 2 from y2)] at kk
      exact ⟨fun q => absurd rfl q, fun _ => kk g2 (o1.oH.trans o2.oH) p2 (by show 0 ≤ a + 2; omega) (by show a + 2 ≤ n; omega) (fun z => absurd z Bool.false_ne_true)⟩
  · rw [w0]
    rw [if_neg (show ¬ isN S N (a + 1) 0 3 from y)] at kk
    exact ⟨fun q => absurd rfl q, fun _ => kk g1 o1.oH p1 (by show 0 ≤ a + 1; omega) (by show a + 1 ≤ n; omega) (fun z => absurd z Bool.false_ne_true)⟩
theorem k_line (hS : TS T L n S P N) (h : HRel g 17 V) (hl : V 6 ≤ 60) (v0 : 0 ≤ V 0) (v6 : V 0 ≤ 6) (hq : CQ g n S P N) (hp : CP g S P N a) (a0 : 0 ≤ a) (a1 : a ≤ n) (kk : KH g n S P N (lnR S N V a) K) : Ct Γ l (d + 4) b yX3_readLine mX3_readLine [vR 4, vR 17] (stt g) K := by
  have w0 : wr 0 = 0 := by decide +kernel
  have w1 : wr 1 = 1 := by decide +kernel
  have fin : ∀ (r : RR) (g' : GG), K (.inl (vI (if r.1 = true then 1 else 0))) (stt g') → (wr (if r.1 = true then 1 else 0) = 0 ∨ wr (if r.1 = true then 1 else 0) = 1) ∧ K (.inl (vI (if r.1 = true then 1 else 0))) (stt g') := fun r g' k => by
    by_cases z : r.1 = true
    · rw [if_pos z] at k ⊢; exact ⟨Or.inr w1, k⟩
    · rw [if_neg z] at k ⊢; exact ⟨Or.inl w0, k⟩
  unfold lnR at kk
  apply wpX3_readLine hi17
  rw [hp.2.1]
  have sg := hS.sg a0 a1
  have one : ∀ (s i f hi : Int), S a = s → s ≠ 1037 → (s = 1014 ∧ hi = 100 ∧ f = 10 ∧ i = 3 ∨ s = 1015 ∧ hi = 999 ∧ f = 11 ∧ i = 4 ∨ s = 1016 ∧ hi = 999 ∧ f = 12 ∧ i = 5) → KH g n S P N (nmR S N V a i hi) K → AW Γ l mX3_readLine (d + 4) b 54 [vR 4, vR 17, vR (S a)] [] (stt g) K := by
    intro s i f hi hs s7 hc k2
    have h44 : g 4 4 = S a := hp.2.1
    rw [← h44]
    apply wpX3_readLine_54 hi17
    rw [h44]
    refine k_st hS hq hp a0 (hS.lt a1 (by omega)) fun g1 p1 q1 o1 => bV_in ?_
    unfold nmR at k2
    have ex : ∀ f' : Int, f' = f → ∀ g2 : GG, g2 = upd2 g1 17 f' (N (a + 1)) → isN S N (a + 1) 0 hi → Ct Γ l (d + 3) 0 yX10_step mX10_step [vR 4] (stt g2) (bV (fun g3 => K (.inl (vI 1)) (stt g3)) K) := by
      intro f' hf g2 e2 y
      rw [if_pos y] at k2
      have h5 := (h.ot o1).fld (f := f') (v := N (a + 1)) (by omega) (by omega) hl
      have hfi : fvi f' = i := by unfold fvi; omega
      rw [← e2, hfi] at h5
      have o5 : oH g1 g2 := by rw [e2]; exact oH.at g1 (by decide) (by decide)
      have p5 : CP g2 S P N (a + 1) := by rw [e2]; exact p1.h (by decide)
      have an := hS.lt a1 (show S a ≠ 1037 by omega)
      have an1 : a + 1 < n := hS.lt (by omega) (by have := y.1; omega)
      refine k_st hS (q1.oh o5) p5 (by omega) an1 fun g6 p6 q6 o6 => bV_in ?_
      rw [show a + 1 + 1 = a + 2 by omega] at p6
      exact k2 g6 ((o1.oH.trans o5).trans o6.oH) p6 (by show 0 ≤ a + 2; omega) (by show a + 2 ≤ n; omega) (fun _ => h5.ot o6)
    have an := hS.lt a1 (show S a ≠ 1037 by omega)
    have go : AW Γ l mX3_readLine (d + 4) b 75 [vR 4, vR 17, vR (S a)] [vI hi, vI 0, vR 4] (stt g1) K := by
      apply wpX3_readLine_75r hi17
      refine k_tells p1 (hS.sg (by omega) (by omega)) (hS.n9 (by omega) (by omega)) (by decide) (by omega) (by omega) (fun y => bI_in ?_) (fun y => bI_in ?_)
      · rw [w1, p1.2.2.2]
        refine ⟨fun _ => ⟨sg, fun z => ⟨sg, fun z2 => ex 12 (by omega) _ rfl y, fun z2 => ex 11 (by omega) _ rfl y⟩, fun z => ex 10 (by omega) _ rfl y⟩, fun q => absurd (show (1 : Int) ≠ 0 by decide) q⟩
      · rw [w0]
        rw [if_neg (show ¬ isN S N (a + 1) 0 hi from y)] at k2
        exact ⟨fun q => absurd rfl q, fun _ => k2 g1 o1.oH p1 (by show 0 ≤ a + 1; omega) (by show a + 1 ≤ n; omega) (fun z => absurd z Bool.false_ne_true)⟩
    refine ⟨sg, fun z => ?_, fun z => ?_⟩
    · have : hi = 999 := by omega
      rw [this] at go
      exact go
    · have : hi = 100 := by omega
      rw [this] at go
      exact go
  refine ⟨sg, fun z10 => ⟨sg, fun z13 => ⟨sg, fun z14 => ?_, fun z14 => ⟨sg, fun z15 => ?_, fun z15 => ⟨sg, fun z16 => ?_, fun z16 => ?_⟩⟩⟩, fun z13 => ?_⟩, fun z10 => ?_⟩
  · rw [if_neg z10, if_neg z13, if_pos z14] at kk
    exact one 1014 3 10 100 z14 (by decide) (by decide) kk
  · rw [if_neg z10, if_neg z13, if_neg z14, if_pos z15] at kk
    exact one 1015 4 11 999 z15 (by decide) (by decide) kk
  · rw [if_neg z10, if_neg z13, if_neg z14, if_neg z15, if_pos z16] at kk
    exact one 1016 5 12 999 z16 (by decide) (by decide) kk
  · rw [if_neg z10, if_neg z13, if_neg z14, if_neg z15, if_neg z16] at kk
    exact kk g oH.refl hp a0 a1 (fun z => absurd z Bool.false_ne_true)
  · rw [if_neg z10, if_pos z13] at kk
    exact k_mode9 hS h hl hq hp a0 (hS.lt a1 (by omega)) fun g' o' p' r0 rn hr => bI_in (fin _ _ (kk g' o' p' r0 rn hr))
  · rw [if_pos z10] at kk
    exact k_oath hS h hl v0 v6 hq hp a0 (hS.lt a1 (by omega)) fun g' o' p' r0 rn hr => bI_in (fin _ _ (kk g' o' p' r0 rn hr))
/-- what a line of the hills keeps -/
def okH (V : VV) : Prop := 0 ≤ V 0 ∧ V 0 ≤ 6 ∧ V 6 ≤ 60
theorem oa_ok (V : VV) (a : Int) (h : okH V) : okH (oaR S N V a).2.2 := by
  obtain ⟨v0, v6, hl⟩ := h
  unfold oaR
  split
  · rename_i c
    have hf := wd_fr (S := S) (N := N) (p := V 0) 12 V (a + 1) 0 0 (by decide) (by decide)
    have h6 := hf 6 (by omega)
    have h0 := hf 0 (by omega)
    generalize wdR S N (V 0) 12 V (a + 1) 0 0 = r at h6 h0
    have hx : ∀ s lo i (W : VV) m, 12 ≤ i → okH W → okH (exR S N s lo i W m).2.2 := fun s lo i W m hi hW => by
      unfold exR
      split
      · split
        · unfold okH at hW ⊢
          show 0 ≤ upV W i _ 0 ∧ upV W i _ 0 ≤ 6 ∧ upV W i _ 6 ≤ 60
          rw [upV_ne (by omega), upV_ne (by omega)]
          exact hW
        · exact hW
      · exact hW
    have hn : okH (nwP r.2.2 (V 0)) := by
      unfold okH nwP setS
      rw [upV_eq, upV_ne (by omega), upV_ne (by omega), upV_ne (by omega), upV_ne (by omega), upV_ne (by omega), h6]
      omega
    simp only
    split
    · split
      · exact hx _ _ _ _ _ (by omega) (hx _ _ _ _ _ (by omega) hn)
      · exact hx _ _ _ _ _ (by omega) hn
    · unfold okH
      rw [h0, h6]
      exact ⟨v0, v6, hl⟩
  · exact ⟨v0, v6, hl⟩
theorem ln_ok (V : VV) (a : Int) (h : okH V) : okH (lnR S N V a).2.2 := by
  have hu : ∀ i x, (i = 3 ∨ i = 4 ∨ i = 5 ∨ 8 ≤ i) → okH (upV V i x) := fun i x hi => by
    unfold okH at h ⊢
    rw [upV_ne (by omega), upV_ne (by omega)]
    exact h
  have hn : ∀ i hi, (i = 3 ∨ i = 4 ∨ i = 5 ∨ 8 ≤ i) → okH (nmR S N V a i hi).2.2 := fun i hi q => by
    unfold nmR
    split
    · exact hu i _ q
    · exact h
  unfold lnR
  split
  · exact oa_ok V a h
  · split
    · unfold moR
      split
      · rename_i y
        split
        · exact hu _ _ (Or.inr (Or.inr (Or.inr (by have := y.2.1; omega))))
        · exact h
      · exact h
    · split
      · exact hn _ _ (by decide)
      · split
        · exact hn _ _ (by decide)
        · split
          · exact hn _ _ (by decide)
          · exact h
theorem k_hillsText (hS : TS T L n S P N) (h : HRel g 17 V) (hV : okH V) (hq : CQ g n S P N) (hp : CP g S P N 0) (kk : KH g n S P N (hiR S N V) K) : Ct Γ l (d + 5) b yX3_readText mX3_readText [vR 4, vR 17] (stt g) K := by
  have w0 : wr 0 = 0 := by decide +kernel
  have w1 : wr 1 = 1 := by decide +kernel
  have n0 := hS.1.1
  apply wpX3_readText hi17
  rw [hp.2.1]
  unfold hiR at kk
  refine ⟨hS.sg (by decide) n0.1, fun c => ?_, fun c => ?_⟩
  · rw [if_neg c] at kk
    have key : ∀ (f : Nat) (V : VV) (g : GG) (a y : Int), (f : Int) + y = 14 → 0 ≤ y → HRel g 17 V → okH V → CQ g n S P N → CP g S P N a → 0 ≤ a → a ≤ n → KH g n S P N (txR S N f V a) K → AW Γ l mX3_readText (d + 5) b 14 [vR 4, vR 17, vI y] [] (stt g) K := by
      intro f
      induction f with
      | zero =>
        intro V g a y hy y0 h hV hq hp a0 a1 kk
        apply wpX3_readText_14 hi17
        exact ⟨fun _ => kk g oH.refl hp a0 a1 (fun z => absurd z Bool.false_ne_true), fun q => absurd (show 14 ≤ wr y by rw [wr_id (x := y) (by omega) (by omega)]; omega) q⟩
      | succ f ih =>
        intro V g a y hy y0 h hV hq hp a0 a1 kk
        apply wpX3_readText_14 hi17
        rw [wr_id (x := y) (by omega) (by omega)]
        unfold txR at kk
        refine ⟨fun q => absurd q (by omega), fun _ => ?_⟩
        have hok := ln_ok (S := S) (N := N) V a hV
        refine k_line hS h hV.2.2 hV.1 hV.2.1 hq hp a0 a1 fun g1 o1 p1 r0 rn hr => bI_in ?_
        generalize lnR S N V a = r at kk hok p1 r0 rn hr ⊢
        simp only at kk
        by_cases z : r.1 = true
        · rw [if_pos z] at kk ⊢
          rw [w1, p1.2.1]
          refine ⟨fun _ => ⟨hS.sg r0 rn, fun z2 => ⟨hS.sg r0 rn, fun z3 => ?_, fun z3 => ?_⟩, fun z2 => ?_⟩, fun q => absurd (show (1 : Int) ≠ 0 by decide) q⟩
          · rw [if_neg z2, if_pos z3] at kk
            refine k_st hS (hq.oh o1) p1 r0 (hS.lt rn z2) fun g2 p2 q2 o2 => bV_in ?_
            exact ih _ _ _ (y + 1) (by omega) (by omega) ((hr z).ot o2) hok q2 p2 (by omega) (by have := hS.lt rn z2; omega) (kk.up (o1.trans o2.oH))
          · rw [if_neg z2, if_neg z3] at kk
            exact kk g1 o1 p1 r0 rn (fun z => absurd z Bool.false_ne_true)
          · rw [if_pos z2] at kk
            have k1 := kk g1 o1 p1 r0 rn hr
            rw [if_pos z] at k1
            exact k1
        · rw [if_neg z] at kk ⊢
          rw [w0]
          have k1 := kk g1 o1 p1 r0 rn hr
          rw [if_neg z] at k1
          exact ⟨fun q => absurd rfl q, fun _ => k1⟩
    exact key 14 V g 0 0 (by decide) (by decide) h hV hq hp (by decide) n0.1 kk
  · rw [if_pos c] at kk
    exact kk g oH.refl hp (by show (0 : Int) ≤ 0; decide) n0.1 (fun _ => h)
end HS
