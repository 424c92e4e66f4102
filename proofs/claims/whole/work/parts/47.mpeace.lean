/-! GAINSAYING: the reference's side -/
def onlyL (g g' : GG) : Prop := ∀ a j, ¬ rW a j → a ≠ 180 → ¬ (185 ≤ a ∧ a ≤ 187) → g' a j = g a j
theorem onlyL.tr {g g1 g2 : GG} (h : onlyL g g1) (h2 : onlyL g1 g2) : onlyL g g2 := fun a j hs ha h9 => by rw [h2 a j hs ha h9, h a j hs ha h9]
theorem onlyR.l {g g' : GG} (h : onlyR g g') : onlyL g g' := fun a j hs _ _ => h a j hs
theorem onlyL.v {g g' : GG} (h : onlyL g g') : g' 172 = g 172 := funext fun j => h _ _ (by unfold rW; omega) (by decide) (by decide)
theorem onlyL.z {g g' : GG} (h : onlyL g g') : g' 171 0 = g 171 0 := h _ _ (by unfold rW; omega) (by decide) (by decide)
theorem onlyL.k {g g' : GG} (h : onlyL g g') : kM g g' := fun a j hs => h a j (by unfold rW; unfold mS at hs; omega) (by unfold mS at hs; omega) (by unfold mS at hs; omega)
/-- what is held lies in the rows -/
def HLD (g : GG) (V : VV) : Prop := ∀ p, 0 ≤ p → p < V 0 → g 185 p = hdC V p 0 ∧ g 186 p = hdC V p 4 ∧ g 187 p = hdC V p 5
section PM
variable {Γ : Cfg} {l : Launch} {d b : Nat} {g : GG} {K : Ou → HP → Prop} {V : VV} {p q : Int}
theorem m_laysHeld (hv : g 172 = V) (hV : WF V) (hW : okLaw V) (kk : ∀ g', onlyL g g' → HLD g' V → K (.inl vU) (stt g')) : Ct Γ l (d + 7) b yX12_laysHeld mX12_laysHeld [vR 171] (stt g) K := by
  have h6 := hV.1.1
  apply wpX12_laysHeld
  refine m_inOrder fun g1 i1 o1 => bV_in ?_
  have oL : onlyL g g1 := fun a j _ ha _ => o1 a j ha
  refine up_loop (P := fun i => ∀ g2, onlyL g g2 → inO g2 → (∀ p, 0 ≤ p → p < (i : Int) → g2 185 p = hdC V p 0 ∧ g2 186 p = hdC V p 4 ∧ g2 187 p = hdC V p 5) → AW Γ l mX12_laysHeld (d + 7) b 6 [vR 171, vI i] [] (stt g2) K) (N := (V 0).toNat) (fun g2 o2 i2 f2 => ?_) (fun i hi9 hi g2 o2 i2 f2 => ?_) 0 (Nat.zero_le _) g1 oL i1 (fun p p0 p1 => absurd p1 (by omega))
  · apply wpX12_laysHeld_6
    rw [o2.v.trans hv, wr_id (x := V 0) (by omega) (by omega), wr_id (x := ((V 0).toNat : Int)) (by omega) (by omega)]
    exact ⟨fun _ => kk g2 o2 (fun p p0 p1 => f2 p p0 (by omega)), fun z => absurd (show V 0 ≤ ((V 0).toNat : Int) by omega) z⟩
  · have v2 := o2.v.trans hv
    have hc := hcS_rng hV (p := i) (by omega) (by omega)
    apply wpX12_laysHeld_6
    rw [v2, wr_id (x := V 0) (by omega) (by omega), wr_id (x := (i : Int)) (by omega) (by omega)]
    refine ⟨fun z => absurd z (by omega), fun _ => m_countsOf v2 hV (by omega) (by omega) (bI_in ?_)⟩
    refine m_readsO v2 hV (by omega) (by omega) hc.1 hc.2 i2 fun g3 h3 o3 => bV_in ⟨by omega, by omega, fun g4 e4 => ⟨by omega, ?_⟩⟩
    have a0 : g3 179 0 = hdC V i 0 := h3.1 0 (by decide) (by decide)
    have a4 : g3 179 4 = hdC V i 4 := h3.1 4 (by decide) (by decide)
    have a5 : g3 179 5 = hdC V i 5 := h3.1 5 (by decide) (by decide)
    rw [upd2_ne (by decide), a0, a4] at e4
    have b5 : g4 179 5 = hdC V i 5 := by rw [e4, upd2_ne (by decide), upd2_ne (by decide), a5]
    rw [b5]
    have o5 : onlyL g3 (upd2 g4 187 i (hdC V i 5)) := fun a j hs ha h9 => by rw [upd2_ne (by omega), e4, upd2_ne (by omega), upd2_ne (by omega)]
    refine hi _ ((o2.tr o3.l).tr o5) (fun k k0 k1 => ?_) (fun p p0 p1 => ?_)
    · rw [upd2_ne (by decide), e4, upd2_ne (by decide), upd2_ne (by decide), o3 _ _ (by unfold rW; omega), i2 k k0 k1]
    · by_cases c : p = i
      · subst c
        refine ⟨?_, ?_, upd2_eq⟩
        · rw [upd2_ne (by decide), e4, upd2_ne (by decide), upd2_eq]
        · rw [upd2_ne (by decide), e4, upd2_eq]
      · have f := f2 p p0 (by omega)
        refine ⟨?_, ?_, ?_⟩
        · rw [upd2_nj c, e4, upd2_nj c, upd2_nj c, o3 _ _ (by unfold rW; omega), f.1]
        · rw [upd2_nj c, e4, upd2_nj c, upd2_nj c, o3 _ _ (by unfold rW; omega), f.2.1]
        · rw [upd2_nj c, e4, upd2_nj c, upd2_nj c, o3 _ _ (by unfold rW; omega), f.2.2]
theorem m_gainsays (hv : g 172 = V) (hV : WF V) (hh : HLD g V) (p0 : 0 ≤ p) (p1 : p < V 0) (q0 : 0 ≤ q) (q1 : q < V 0) (k1 : odS V p q → K (.inl (vI 1)) (stt g)) (k2 : ¬ odS V p q → K (.inl (vI 0)) (stt g)) : Ct Γ l (d + 2) b yX12_gainsays mX12_gainsays [vR 171, vI p, vI q] (stt g) K := by
  have h6 := hV.1.1
  have hp := hV.pn p0 (show p < 6 by omega)
  have hq := hV.pn q0 (show q < 6 by omega)
  obtain ⟨-, -, -, a3, -⟩ := ofP_all hv p0 (show p < 6 by omega)
  obtain ⟨-, -, -, b3, -⟩ := ofP_all hv q0 (show q < 6 by omega)
  have hcp := hcS_rng hV p0 (show p < 6 by omega)
  have hcq := hcS_rng hV q0 (show q < 6 by omega)
  have okp := hV.okR p0 (show p < 6 by omega) hcp.1 hcp.2
  have okq := hV.okR q0 (show q < 6 by omega) hcq.1 hcq.2
  obtain ⟨c0, c4, c5⟩ := hh p p0 p1
  obtain ⟨e0, e4, e5⟩ := hh q q0 q1
  apply wpX12_gainsays
  rw [wr_id (x := p) (by omega) (by omega), wr_id (x := q) (by omega) (by omega), a3.1, b3.1, wr_id (x := zS V p) (by omega) (by omega), wr_id (x := zS V q) (by omega) (by omega), c0, c4, c5, e0, e4, e5, wr_iAnd]
  unfold odS at k1 k2
  unfold hdC at k1 k2 ⊢
  unfold okC at okp okq
  generalize rdV V p (hcS V p) = c at okp k1 k2 ⊢
  generalize rdV V q (hcS V q) = e at okq k1 k2 ⊢
  rw [wr_id (x := c 0) (by omega) (by omega), wr_id (x := e 0) (by omega) (by omega), wr_id (x := c 5) (by omega) (by omega), wr_id (x := e 5) (by omega) (by omega)]
  have i1 : 0 ≤ p ∧ p < 6 := by omega
  have i2 : 0 ≤ q ∧ q < 6 := by omega
  refine ⟨a3.2, fun y => k2 (fun o => y o.1.1), fun y => ⟨b3.2, fun y2 => k2 (fun o => y2 o.1.2), fun y2 => ⟨i1, fun y3 => k2 (fun o => o.2.1 y3), fun y3 => ⟨i1, i2, fun y4 => k2 (fun o => y4 o.2.2.1), fun y4 => ⟨i1, i2, fun y5 => k2 (fun o => o.2.2.2.1 y5), fun y5 => ⟨i1, i2, fun y6 => k2 (fun o => o.2.2.2.2 y6), fun y6 => k1 ⟨⟨by omega, by omega⟩, y3, by omega, y5, y6⟩⟩⟩⟩⟩⟩⟩
theorem odS_ppl {a c : Int} (hz : ZP V) (a1 : a < 6) (c1 : c < 6) (h : odS V a c) : a < V 0 ∧ c < V 0 := by
  refine ⟨?_, ?_⟩
  · by_cases z : a < V 0
    · exact z
    · have := hz.s (p := a) (by omega) a1; have := h.1.1; omega
  · by_cases z : c < V 0
    · exact z
    · have := hz.s (p := c) (by omega) c1; have := h.1.2; omega
theorem m_isPeace {s : Int} (hv : g 172 = V) (hV : WF V) (hz : ZP V) (hh : HLD g V) (s0 : 0 ≤ s) (s1 : s < 64) (k1 : PcS V s → K (.inl (vI 1)) (stt g)) (k2 : ¬ PcS V s → K (.inl (vI 0)) (stt g)) : Ct Γ l (d + 3) b yX12_isPeace mX12_isPeace [vR 171, vI s] (stt g) K := by
  have h6 := hV.1.1
  have w1 : wr 1 = 1 := by decide +kernel
  apply wpX12_isPeace
  -- is: all that was looked at is at peace
  refine up_loop (P := fun i => ∀ y : Int, (y = 0 ∨ y = 1) → (y = 1 → ∀ a c, 0 ≤ c → c < a → a < (i : Int) → bt s a → bt s c → ¬ odS V a c) → (y = 0 → ¬ PcS V s) → AW Γ l mX12_isPeace (d + 3) b 4 [vR 171, vI s, vI y, vI i, vU] [] (stt g) K) (N := (V 0).toNat) (fun y y01 f1 f0 => ?_) (fun i hi9 hi y y01 f1 f0 => ?_) 0 (Nat.zero_le _) 1 (Or.inr rfl) (fun _ a c c0 c1 a1 => absurd a1 (by omega)) (fun z => absurd z (by decide))
  · apply wpX12_isPeace_4
    rw [hv, wr_id (x := V 0) (by omega) (by omega), wr_id (x := ((V 0).toNat : Int)) (by omega) (by omega), wr_id (x := y) (by omega) (by omega)]
    refine ⟨fun _ => ⟨y01, ?_⟩, fun z => absurd (show V 0 ≤ ((V 0).toNat : Int) by omega) z⟩
    rcases y01 with e | e
    · rw [e]; exact k2 (f0 e)
    · rw [e]
      refine k1 (fun a c a0 a1 c0 c1 ba bc o => ?_)
      have op := odS_ppl hz a1 c1 o
      have ne : a ≠ c := fun z => o.2.2.2.2 (by rw [z])
      by_cases z : c < a
      · exact f1 e a c c0 z (by omega) ba bc o
      · exact f1 e c a a0 (by omega) (by omega) bc ba (odS_sym o)
  · apply wpX12_isPeace_4
    rw [hv, wr_id (x := V 0) (by omega) (by omega), wr_id (x := (i : Int)) (by omega) (by omega)]
    refine ⟨fun z => absurd z (by omega), fun _ => ?_⟩
    refine up_loop (P := fun j => ∀ y : Int, (y = 0 ∨ y = 1) → (y = 1 → (∀ a c, 0 ≤ c → c < a → a < (i : Int) → bt s a → bt s c → ¬ odS V a c) ∧ (∀ c, 0 ≤ c → c < (j : Int) → bt s i → bt s c → ¬ odS V i c)) → (y = 0 → ¬ PcS V s) → AW Γ l mX12_isPeace (d + 3) b 15 [vR 171, vI s, vI y, vI i, vI j] [] (stt g) K) (N := i) (fun y y01 f1 f0 => ?_) (fun j hj9 hj y y01 f1 f0 => ?_) 0 (Nat.zero_le _) y y01 (fun z => ⟨f1 z, fun c c0 c1 => absurd c1 (by omega)⟩) f0
    · apply wpX12_isPeace_15
      refine ⟨fun _ => AW.weak (hi y y01 (fun z a c c0 c1 a1 ba bc => ?_) f0) (by simp [leP]), fun z => absurd (Int.le_refl _) z⟩
      by_cases e : a = i
      · subst e; exact (f1 z).2 c c0 c1 ba bc
      · exact (f1 z).1 a c c0 c1 (by omega) ba bc
    · have hj2 : ∀ y : Int, (y = 0 ∨ y = 1) → (y = 1 → (∀ a c, 0 ≤ c → c < a → a < (i : Int) → bt s a → bt s c → ¬ odS V a c) ∧ (∀ c, 0 ≤ c → c < (j : Int) + 1 → bt s i → bt s c → ¬ odS V i c)) → (y = 0 → ¬ PcS V s) → AW Γ l mX12_isPeace (d + 3) b 15 [vR 171, vI s, vI y, vI i, vI ((j : Int) + 1)] [] (stt g) K := hj
      have bi := bit_ask s0 s1 (p := i) (by omega) (by omega)
      have bj := bit_ask s0 s1 (p := j) (by omega) (by omega)
      have yes : y = 1 → (bt s i → bt s j → ¬ odS V i j) → AW Γ l mX12_isPeace (d + 3) b 15 [vR 171, vI s, vI 1, vI i, vI ((j : Int) + 1)] [] (stt g) K := fun e hn => hj2 1 (Or.inr rfl) (fun _ => ⟨(f1 e).1, fun c c0 c1 b1 b2 => by
        by_cases z : c = j
        · subst z; exact hn b1 b2
        · exact (f1 e).2 c c0 (by omega) b1 b2⟩) (fun z => absurd z (by decide))
      apply wpX12_isPeace_15
      rw [wr_id (x := (i : Int)) (by omega) (by omega), wr_id (x := (j : Int)) (by omega) (by omega), wr_iAnd, wr_iAnd, bi.1, bj.1, wr_id (x := y) (by omega) (by omega)]
      refine ⟨fun z => absurd z (by omega), fun _ => ⟨fun z => hj2 0 (Or.inl rfl) (fun c => absurd c (by decide)) (fun _ => f0 z), fun z => ⟨fun b1 => ⟨fun b2 => m_gainsays hv hV hh (by omega) (by omega) (by omega) (by omega) (fun o => bI_in ?_) (fun o => bI_in ?_), fun b2 => yes (by omega) (fun _ c => absurd c b2)⟩, fun b1 => yes (by omega) (fun c => absurd c b1)⟩⟩⟩
      · rw [w1]
        exact ⟨fun _ => hj2 0 (Or.inl rfl) (fun c => absurd c (by decide)) (fun _ pc => pc i j (by omega) (by omega) (by omega) (by omega) b1 b2 o), fun c => absurd (by decide) c⟩
      · rw [wr_0]
        exact ⟨fun c => absurd rfl c, fun _ => yes (by omega) (fun _ _ => o)⟩
theorem m_peace (hv : g 172 = V) (hV : WF V) (hW : okLaw V) (hz : ZP V) (kk : ∀ g' r, kM g g' → bestP V 64 r → K (.inl (vI r)) (stt g')) : Ct Γ l (d + 8) b yX12_peace mX12_peace [vR 171] (stt g) K := by
  have hb := (btS_bt hV (s := 2)).1
  apply wpX12_peace
  have v1 := th_v (c := 0) hv
  have m1 : kM g (upd2 g 171 0 0) := kM.th
  generalize upd2 g 171 0 0 = g1 at v1 m1 ⊢
  refine m_laysHeld v1 hV hW fun g2 o2 hh => bV_in ?_
  have v2 := o2.v.trans v1
  refine m_allIn v2 hV (by decide) (by decide) (bI_in ?_)
  refine up_loop (P := fun i => ∀ y, bestP V ((i : Int) + 1) y → AW Γ l mX12_peace (d + 8) b 19 [vR 171, vI (btS V 2), vI y, vI ((i : Int) + 1)] [] (stt g2) K) (N := (btS V 2).toNat) (fun y hy => ?_) (fun i hi9 hi y hy => ?_) 0 (Nat.zero_le _) 0 bestP_0
  · apply wpX12_peace_19
    rw [wr_id (x := btS V 2) (by omega) (by omega), wr_id (x := ((btS V 2).toNat : Int) + 1) (by omega) (by omega)]
    refine ⟨fun _ => kk g2 y (m1.tr o2.k) ⟨⟨hy.1.1, by have := hy.1.2; omega⟩, hy.2.1, hy.2.2.1, fun s s0 s1 a1 a2 => ?_⟩, fun z => absurd (show btS V 2 < ((btS V 2).toNat : Int) + 1 by omega) z⟩
    have := (sub_ask s0 s1 hb.1 hb.2).2.1 ((subS_iff hV s0 s1).mpr a1)
    exact hy.2.2.2 s s0 (by omega) a1 a2
  · have hi2 : ∀ y, bestP V ((i : Int) + 1 + 1) y → AW Γ l mX12_peace (d + 8) b 19 [vR 171, vI (btS V 2), vI y, vI ((i : Int) + 1 + 1)] [] (stt g2) K := hi
    have ey := iBC_64 hy.1.1 (show y < 64 by have := hy.1.2; omega)
    have es := iBC_64 (x := (i : Int) + 1) (by omega) (by omega)
    have hs := subS_iff (s := (i : Int) + 1) hV (by omega) (by omega)
    apply wpX12_peace_19
    rw [wr_id (x := btS V 2) (by omega) (by omega), wr_id (x := (i : Int) + 1) (by omega) (by omega), ey.2, es.2, wr_iAnd, hs]
    refine ⟨fun z => absurd z (by omega), fun _ => ⟨fun z2 => hi2 y (bestP_stay hy (fun c => absurd c z2)), fun z2 => ⟨fun z => hi2 y (bestP_stay hy (fun _ _ => z)), fun z => m_isPeace v2 hV hz hh (by omega) (by omega) (fun pc => bI_in ⟨fun c => absurd c (by decide +kernel), fun _ => hi2 _ (bestP_move hy (Classical.not_not.mp z2) pc (by omega))⟩) (fun pc => bI_in ⟨fun _ => hi2 y (bestP_stay hy (fun _ c => absurd c pc)), fun c => absurd wr_0 c⟩)⟩⟩⟩
theorem m_quiet (hv : g 172 = V) (hV : WF V) (hW : okLaw V) (hz : ZP V) (kk : ∀ g' r, kM g g' → bestQ V 0 64 r → K (.inl (vI r)) (stt g')) : Ct Γ l (d + 8) b yX12_quiet mX12_quiet [vR 171] (stt g) K := by
  have hb := (btS_bt hV (s := 2)).1
  apply wpX12_quiet
  have v1 := th_v (c := 0) hv
  have m1 : kM g (upd2 g 171 0 0) := kM.th
  generalize upd2 g 171 0 0 = g1 at v1 m1 ⊢
  refine m_laysHeld v1 hV hW fun g2 o2 hh => bV_in ?_
  have v2 := o2.v.trans v1
  refine m_allIn v2 hV (by decide) (by decide) (bI_in ?_)
  have z9 := up_loop (P := fun i => ∀ y, bestQ V (btS V 2 + 1 - (i : Int)) (btS V 2 + 1) y → AW Γ l mX12_quiet (d + 8) b 19 [vR 171, vI (btS V 2), vI y, vI (btS V 2 - (i : Int))] [] (stt g2) K) (N := (btS V 2 + 1).toNat) (fun y hy => ?_) (fun i hi9 hi y hy => ?_) 0 (Nat.zero_le _) (btS V 2) (bestQ_all hV (by omega))
  · rw [show btS V 2 - ((0 : Nat) : Int) = btS V 2 by omega] at z9
    exact z9
  · apply wpX12_quiet_19
    rw [wr_id (x := btS V 2 - ((btS V 2 + 1).toNat : Int)) (by omega) (by omega)]
    refine ⟨fun _ => kk g2 y (m1.tr o2.k) ⟨hy.1, hy.2.1, hy.2.2.1, fun s s0 s1 a1 a2 => ?_⟩, fun z => absurd (show btS V 2 - ((btS V 2 + 1).toNat : Int) < 0 by omega) z⟩
    have := (sub_ask s0 s1 hb.1 hb.2).2.1 ((subS_iff hV s0 s1).mpr a1)
    exact hy.2.2.2 s (by omega) (by omega) a1 a2
  · rw [show btS V 2 + 1 - ((i + 1 : Nat) : Int) = btS V 2 + 1 - (i : Int) - 1 by omega, show btS V 2 - ((i + 1 : Nat) : Int) = btS V 2 - (i : Int) + (-1) by omega] at hi
    have em : btS V 2 + 1 - (i : Int) - 1 = btS V 2 - (i : Int) := by omega
    have st := fun h => hi y (bestQ_dstay hy h)
    have mv := fun n0 n1 h1 h2 h3 => hi _ (bestQ_dmove hy n0 n1 h1 h2 h3)
    rw [em] at st mv
    have ey := iBC_64 hy.1.1 hy.1.2
    have es := iBC_64 (x := btS V 2 - (i : Int)) (by omega) (by omega)
    have hs := subS_iff (s := btS V 2 - (i : Int)) hV (by omega) (by omega)
    have hx := sub_ask hb.1 hb.2 (t := btS V 2 - (i : Int)) (by omega) (by omega)
    apply wpX12_quiet_19
    rw [wr_id (x := btS V 2 - (i : Int)) (by omega) (by omega), ey.2, es.2, wr_iAnd, hs]
    refine ⟨fun z => absurd z (by omega), fun _ => ⟨fun z2 => st (fun c => absurd c z2), fun z2 => ⟨fun z => st (fun _ _ => z), fun z => m_isPeace v2 hV hz hh hx.2.2.1.1 hx.2.2.1.2 (fun pc => bI_in ⟨fun c => absurd c (by decide +kernel), fun _ => mv (by omega) (by omega) (Classical.not_not.mp z2) pc (by omega)⟩) (fun pc => bI_in ⟨fun _ => st (fun _ c => absurd c pc), fun c => absurd wr_0 c⟩)⟩⟩⟩
end PM
