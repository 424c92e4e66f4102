/-! GAINSAYING: the class's side -/
def hdC (V : VV) (p : Int) : CL := rdV V p (hcS V p)
def odS (V : VV) (p q : Int) : Prop := (zS V p = 2 ∧ zS V q = 2) ∧ hdC V p 0 ≠ 0 ∧ hdC V p 0 = hdC V q 0 ∧ iAnd (hdC V p 4) (hdC V q 4) ≠ 0 ∧ hdC V p 5 ≠ hdC V q 5
theorem iAnd_c (x y : Int) : iAnd x y = iAnd y x := by
  unfold iAnd
  rw [Int32.and_comm]
theorem odS_sym {V : VV} {p q : Int} (h : odS V p q) : odS V q p := by
  obtain ⟨h1, h2, h3, h4, h5⟩ := h
  exact ⟨h1.symm, by rw [← h3]; exact h2, h3.symm, by rw [iAnd_c]; exact h4, fun c => h5 c.symm⟩
/-- nothing is where nobody is -/
def ZP (V : VV) : Prop := ∀ p, V 0 ≤ p → p < 6 → ∀ w, 0 ≤ w → w < 29 → V (12 + 29 * p + w) = 0
theorem ZP.s {V : VV} (h : ZP V) {p : Int} (p0 : V 0 ≤ p) (p1 : p < 6) : zS V p = 0 := h p p0 p1 3 (by decide) (by decide)
def PcS (V : VV) (s : Int) : Prop := ∀ a c, 0 ≤ a → a < 6 → 0 ≤ c → c < 6 → bt s a → bt s c → ¬ odS V a c
def subS (s h : Int) : Prop := ∀ p, 0 ≤ p → p < 6 → bt s p → bt h p
/-- the largest set at peace, the least by number of several -/
def bestP (V : VV) (n r : Int) : Prop := (0 ≤ r ∧ r < n) ∧ subS r (btS V 2) ∧ PcS V r ∧ ∀ s, 0 ≤ s → s < n → subS s (btS V 2) → PcS V s → iBC s < iBC r ∨ (iBC s = iBC r ∧ r ≤ s)
/-- the smallest set without whom there is peace; s lies among those from m to n -/
def bestQ (V : VV) (m n r : Int) : Prop := (0 ≤ r ∧ r < 64) ∧ subS r (btS V 2) ∧ PcS V (iAnd (btS V 2) (iXor r (-1))) ∧ ∀ s, m ≤ s → s < n → subS s (btS V 2) → PcS V (iAnd (btS V 2) (iXor s (-1))) → iBC r < iBC s ∨ (iBC s = iBC r ∧ r ≤ s)
theorem bt_0 {p : Int} (h : bt 0 p) : False := by
  have h : (0 : Nat).testBit p.toNat = true := h
  rw [Nat.zero_testBit] at h
  cases h
theorem iBC_64 {x : Int} (h0 : 0 ≤ x) (h1 : x < 64) : (0 ≤ iBC x ∧ iBC x ≤ 10) ∧ wr (iBC x) = iBC x := by
  have := iBC_k h0 (show x < 1024 by omega)
  exact ⟨this, wr_id (by omega) (by omega)⟩
theorem bestP_stay {V : VV} {n y : Int} (hy : bestP V n y) (hh : subS n (btS V 2) → PcS V n → iBC n ≤ iBC y) : bestP V (n + 1) y :=
  ⟨⟨hy.1.1, by have := hy.1.2; omega⟩, hy.2.1, hy.2.2.1, fun s s0 s1 a1 a2 => by
    by_cases e : s = n
    · rw [e] at a1 a2 ⊢
      have := hh a1 a2
      have := hy.1.2
      omega
    · exact hy.2.2.2 s s0 (by omega) a1 a2⟩
theorem bestP_move {V : VV} {n y : Int} (hy : bestP V n y) (h1 : subS n (btS V 2)) (h2 : PcS V n) (h3 : iBC y < iBC n) : bestP V (n + 1) n :=
  ⟨⟨by have := hy.1; omega, by omega⟩, h1, h2, fun s s0 s1 a1 a2 => by
    by_cases e : s = n
    · rw [e]; exact Or.inr ⟨rfl, Int.le_refl _⟩
    · have := hy.2.2.2 s s0 (by omega) a1 a2
      omega⟩
theorem bestP_0 {V : VV} : bestP V 1 0 := ⟨by decide, fun p _ _ hp => absurd hp (fun c => bt_0 c), fun a c _ _ _ _ ha _ => absurd ha (fun c => bt_0 c), fun s s0 s1 _ _ => Or.inr ⟨by rw [show s = 0 by omega], s0⟩⟩
theorem bestP_one {V : VV} {r r' : Int} (h : bestP V 64 r) (h' : bestP V 64 r') : r = r' := by
  have a := h.2.2.2 r' h'.1.1 h'.1.2 h'.2.1 h'.2.2.1
  have c := h'.2.2.2 r h.1.1 h.1.2 h.2.1 h.2.2.1
  omega
theorem bestQ_one {V : VV} {r r' : Int} (h : bestQ V 0 64 r) (h' : bestQ V 0 64 r') : r = r' := by
  have a := h.2.2.2 r' h'.1.1 h'.1.2 h'.2.1 h'.2.2.1
  have c := h'.2.2.2 r h.1.1 h.1.2 h.2.1 h.2.2.1
  omega
section PC
variable {Γ : Cfg} {l : Launch} {d b : Nat} {g : GG} {K : Ou → HP → Prop} {V : VV} {p q : Int}
theorem k_areAtOdds (h : CS g V V) (hz : ZP V) (p0 : 0 ≤ p) (p1 : p < 6) (q0 : 0 ≤ q) (q1 : q < 6) (k1 : odS V p q → ∀ g', onlyS g g' → K (.inl (vI 1)) (stt g')) (k2 : ¬ odS V p q → ∀ g', onlyS g g' → K (.inl (vI 0)) (stt g')) : Ct Γ l (d + 5) b yX11_areAtOdds mX11_areAtOdds [vR 1, vI p, vI q] (stt g) K := by
  have h6 := h.2.1.1.1
  have hp := h.2.1.pn p0 p1
  have hq := h.2.1.pn q0 q1
  have l156 : ln 156 = 8 := by decide +kernel
  have kk := k2
  apply wpX11_areAtOdds
  rw [h.n13 p0 p1, h.n13 q0 q1, wr_id (x := zS V p) (by omega) (by omega), wr_id (x := zS V q) (by omega) (by omega)]
  refine ⟨fun z => k2 (fun o => z o.1.1) g onlyS.rf, fun z => ⟨fun z2 => ?_, fun z2 => k2 (fun o => z2 o.1.2) g onlyS.rf⟩⟩
  have pp : p < V 0 := by
    by_cases c : p < V 0
    · exact c
    · have := hz.s (p := p) (by omega) p1; omega
  have qq : q < V 0 := by
    by_cases c : q < V 0
    · exact c
    · have := hz.s (p := q) (by omega) q1; omega
  refine k_heldWeight h p0 pp fun g1 t1 o1 => bI_in (k_heldWeight (h.os o1) q0 qq fun g2 t2 o2 => bI_in ?_)
  have o12 := o1.tr o2
  have hcp := hcS_rng h.2.1 p0 p1
  have hcq := hcS_rng h.2.1 q0 q1
  have okp := h.2.1.okR p0 p1 hcp.1 hcp.2
  have okq := h.2.1.okR q0 q1 hcq.1 hcq.2
  rw [cel_in (by decide) (by rw [l156]; decide), cel_in (by decide) (by rw [l156]; decide), cel_in (by decide) (by rw [l156]; decide), cel_in (by decide) (by rw [l156]; decide), cel_in (by decide) (by rw [l156]; decide), cel_in (by decide) (by rw [l156]; decide), t1.1 0 (by decide) (by decide), t1.1 4 (by decide) (by decide), t1.1 5 (by decide) (by decide), t2.1 0 (by decide) (by decide), t2.1 4 (by decide) (by decide), t2.1 5 (by decide) (by decide), wr_iAnd]
  unfold odS hdC at k1 k2
  unfold okC at okp okq
  generalize rdV V p (hcS V p) = c at okp k1 k2 ⊢
  generalize rdV V q (hcS V q) = e at okq k1 k2 ⊢
  rw [wr_id (x := c 0) (by omega) (by omega), wr_id (x := e 0) (by omega) (by omega), wr_id (x := c 5) (by omega) (by omega), wr_id (x := e 5) (by omega) (by omega)]
  refine ⟨fun y => k2 (fun o => o.2.1 y) g2 o12, fun y => ⟨fun y2 => k2 (fun o => y2 o.2.2.1) g2 o12, fun y2 => ⟨fun y3 => k2 (fun o => o.2.2.2.1 y3) g2 o12, fun y3 => ⟨fun y4 => k2 (fun o => o.2.2.2.2 y4) g2 o12, fun y4 => k1 ⟨⟨by omega, z2⟩, y, by omega, y3, y4⟩ g2 o12⟩⟩⟩⟩
/-- whom one is against, as bits -/
noncomputable def agS (V : VV) (p : Int) (n : Nat) : Int := fd (fun b q => @ite Int (q ≠ p ∧ odS V p q) (Classical.propDecidable _) (iOr b (iShl 1 q)) b) 0 n
theorem agS_bt (V : VV) (p : Int) : (0 ≤ agS V p 6 ∧ agS V p 6 < 64) ∧ ∀ q, 0 ≤ q → q < 6 → (bt (agS V p 6) q ↔ q ≠ p ∧ odS V p q) := by
  have := @bit_fd (fun q => q ≠ p ∧ odS V p q) (fun _ => Classical.propDecidable _) 6 (Nat.le_refl _)
  refine ⟨this.1, fun q q0 q1 => ?_⟩
  exact (this.2 q q0 q1).trans ⟨fun h => h.2, fun h => ⟨q1, h⟩⟩
def onlyG (g g' : GG) : Prop := ∀ a j, ¬ sW a j → a ≠ 170 → g' a j = g a j
theorem onlyG.tr {g g1 g2 : GG} (h : onlyG g g1) (h2 : onlyG g1 g2) : onlyG g g2 := fun a j hs ha => by rw [h2 a j hs ha, h a j hs ha]
theorem onlyS.gg {g g' : GG} (h : onlyS g g') : onlyG g g' := fun a j hs _ => h a j hs
theorem onlyG.c {g g' : GG} (h : onlyG g g') : kC g g' := fun a j hs => h a j (by unfold sW cW; unfold cS at hs; omega) (by unfold cS at hs; omega)
theorem k_fillAgainst (h : CS g V V) (hz : ZP V) (kk : ∀ g', onlyG g g' → (∀ p, 0 ≤ p → p < 6 → g' 170 p = agS V p 6) → K (.inl vU) (stt g')) : Ct Γ l (d + 6) b yX11_fillAgainst mX11_fillAgainst [vR 1] (stt g) K := by
  have l170 : ln 170 = 6 := by decide +kernel
  apply wpX11_fillAgainst
  refine up_loop (P := fun i => ∀ g1, onlyG g g1 → (∀ p, 0 ≤ p → p < (i : Int) → g1 170 p = agS V p 6) → AW Γ l mX11_fillAgainst (d + 6) b 2 [vR 1, vI i, vU, vU] [] (stt g1) K) (N := 6) (fun g1 o1 f1 => ?_) (fun i hi9 hi g1 o1 f1 => ?_) 0 (Nat.zero_le _) g (fun _ _ _ _ => rfl) (fun p p0 p1 => absurd p1 (by omega))
  · apply wpX11_fillAgainst_2
    exact ⟨fun _ => kk g1 o1 f1, fun z => absurd (show 6 ≤ wr ((6 : Nat) : Int) by decide +kernel) z⟩
  · apply wpX11_fillAgainst_2
    rw [wr_id (x := (i : Int)) (by omega) (by omega)]
    refine ⟨fun z => absurd z (by omega), fun _ => ?_⟩
    refine up_loop (P := fun j => ∀ g2, onlyS g1 g2 → AW Γ l mX11_fillAgainst (d + 6) b 12 [vR 1, vI i, vI (agS V i j), vI j] [] (stt g2) K) (N := 6) (fun g2 o2 => ?_) (fun j hj9 hj g2 o2 => ?_) 0 (Nat.zero_le _) g1 onlyS.rf
    · apply wpX11_fillAgainst_12
      refine ⟨fun _ => ?_, fun z => absurd (show 6 ≤ wr ((6 : Nat) : Int) by decide +kernel) z⟩
      rw [puc_in (by omega) (by rw [l170]; omega)]
      have o3 : onlyG g1 (upd2 g2 170 i (agS V i 6)) := fun a j hs ha => by rw [upd2_ne ha, o2 a j hs]
      refine AW.weak (hi _ (o1.tr o3) (fun p p0 p1 => ?_)) (by simp [leP])
      by_cases c : p = i
      · rw [c, upd2_eq]
      · rw [upd2_nj c, o2 _ _ (nsW (by omega)), f1 p p0 (by omega)]
    · have e : agS V i (j + 1) = @ite Int ((j : Int) ≠ i ∧ odS V i j) (Classical.propDecidable _) (iOr (agS V i j) (iShl 1 j)) (agS V i j) := rfl
      have h2 : CS g2 V V := (h.kc o1.c).os o2
      apply wpX11_fillAgainst_12
      rw [wr_id (x := (i : Int)) (by omega) (by omega), wr_id (x := (j : Int)) (by omega) (by omega)]
      refine ⟨fun z => absurd z (by omega), fun _ => ⟨fun z => ?_, fun z => k_areAtOdds h2 hz (by omega) (by omega) (by omega) (by omega) (fun od g3 o3 => bI_in ?_) (fun od g3 o3 => bI_in ?_)⟩⟩
      · have := hj g2 o2
        rw [e, if_neg (fun c => c.1 z)] at this
        exact this
      · have := hj g3 (o2.tr o3)
        rw [e, if_pos ⟨z, od⟩] at this
        exact ⟨fun c => absurd c (by decide +kernel), fun _ => this⟩
      · have := hj g3 (o2.tr o3)
        rw [e, if_neg (fun c => od c.2)] at this
        exact ⟨fun _ => this, fun c => absurd wr_0 c⟩
theorem k_isPeaceful {s : Int} (s0 : 0 ≤ s) (s1 : s < 64) (hg : ∀ p, 0 ≤ p → p < 6 → g 170 p = agS V p 6) (k1 : PcS V s → K (.inl (vI 1)) (stt g)) (k2 : ¬ PcS V s → K (.inl (vI 0)) (stt g)) : Ct Γ l (d + 1) b yX11_isPeaceful mX11_isPeaceful [vR 1, vI s] (stt g) K := by
  have l170 : ln 170 = 6 := by decide +kernel
  apply wpX11_isPeaceful
  refine up_loop (P := fun i => (∀ a c, 0 ≤ a → a < (i : Int) → 0 ≤ c → c < 6 → bt s a → bt s c → c ≠ a → ¬ odS V a c) → AW Γ l mX11_isPeaceful (d + 1) b 2 [vR 1, vI s, vI i] [] (stt g) K) (N := 6) (fun hf => ?_) (fun i hi9 hi hf => ?_) 0 (Nat.zero_le _) (fun a c a0 a1 => absurd a1 (by omega))
  · apply wpX11_isPeaceful_2
    refine ⟨fun _ => k1 (fun a c a0 a1 c0 c1 ha hc o => ?_), fun z => absurd (show 6 ≤ wr ((6 : Nat) : Int) by decide +kernel) z⟩
    by_cases e : c = a
    · rw [e] at o; exact o.2.2.2.2 rfl
    · exact hf a c a0 a1 c0 c1 ha hc e o
  · have hb := bit_ask s0 s1 (p := i) (by omega) (by omega)
    have ha := agS_bt V i
    have hn := and_ask s0 s1 ha.1.1 ha.1.2
    apply wpX11_isPeaceful_2
    rw [wr_id (x := (i : Int)) (by omega) (by omega), cel_in (by omega) (by rw [l170]; omega), hg i (by omega) (by omega), wr_iAnd, wr_iAnd]
    refine ⟨fun z => absurd z (by omega), fun _ => ⟨fun z => hi (fun a c a0 a1 c0 c1 ba bc ne => ?_), fun z => ⟨fun z2 => hi (fun a c a0 a1 c0 c1 ba bc ne => ?_), fun z2 => k2 (fun pc => z2 (hn.2.mpr (fun q q0 q1 bq => ?_)))⟩⟩⟩
    · by_cases e : a = i
      · rw [e] at ba; exact absurd ba (hb.2.mp z)
      · exact hf a c a0 (by omega) c0 c1 ba bc ne
    · by_cases e : a = i
      · subst e
        exact fun o => hn.2.mp z2 c c0 c1 ⟨bc, (ha.2 c c0 c1).mpr ⟨ne, o⟩⟩
      · exact hf a c a0 (by omega) c0 c1 ba bc ne
    · have bi : bt s i := Classical.byContradiction fun c => z (hb.2.mpr c)
      exact pc i q (by omega) (by omega) q0 q1 bi bq.1 ((ha.2 q q0 q1).mp bq.2).2
theorem subS_iff {s : Int} (hV : WF V) (s0 : 0 ≤ s) (s1 : s < 64) : iAnd s (iXor (btS V 2) (-1)) = 0 ↔ subS s (btS V 2) := by
  have hb := (btS_bt hV (s := 2)).1
  exact (sub_ask s0 s1 hb.1 hb.2).1
theorem k_peace (h : CS g V V) (hz : ZP V) (kk : ∀ g' r, kC g g' → bestP V 64 r → K (.inl (vI r)) (stt g')) : Ct Γ l (d + 7) b yX11_peace mX11_peace [vR 1] (stt g) K := by
  have hb := (btS_bt h.2.1 (s := 2)).1
  apply wpX11_peace
  refine k_bitsOf h.1 h.2.1 (by decide) (by decide) (bI_in ?_)
  refine k_fillAgainst h hz fun g1 o1 f1 => bV_in ?_
  refine up_loop (P := fun i => ∀ y, bestP V ((i : Int) + 1) y → AW Γ l mX11_peace (d + 7) b 17 [vR 1, vI (btS V 2), vI y, vI ((i : Int) + 1), vU] [] (stt g1) K) (N := 63) (fun y hy => ?_) (fun i hi9 hi y hy => ?_) 0 (Nat.zero_le _) 0 bestP_0
  · apply wpX11_peace_17
    exact ⟨fun _ => kk g1 y o1.c hy, fun z => absurd (show 64 ≤ wr (((63 : Nat) : Int) + 1) by decide +kernel) z⟩
  · have hi2 : ∀ y, bestP V ((i : Int) + 1 + 1) y → AW Γ l mX11_peace (d + 7) b 17 [vR 1, vI (btS V 2), vI y, vI ((i : Int) + 1 + 1), vU] [] (stt g1) K := hi
    have ey := iBC_64 hy.1.1 (show y < 64 by have := hy.1.2; omega)
    have es := iBC_64 (x := (i : Int) + 1) (by omega) (by omega)
    have hs := subS_iff (s := (i : Int) + 1) h.2.1 (by omega) (by omega)
    have st : ∀ v : AV, (subS ((i : Int) + 1) (btS V 2) → PcS V ((i : Int) + 1) → iBC ((i : Int) + 1) ≤ iBC y) → AW Γ l mX11_peace (d + 7) b 17 [vR 1, vI (btS V 2), vI y, vI ((i : Int) + 1 + 1), v] [] (stt g1) K := fun v hh => AW.weak (hi2 y (bestP_stay hy hh)) (by simp [leP])
    apply wpX11_peace_17
    rw [wr_id (x := (i : Int) + 1) (by omega) (by omega), ey.2, es.2, wr_iAnd, hs]
    refine ⟨fun z => absurd z (by omega), fun _ => ⟨fun z => ⟨fun z2 => st _ (fun c => absurd c z2), fun _ => st _ (fun _ _ => z)⟩, fun z => ⟨fun z2 => st _ (fun c => absurd c z2), fun z2 => k_isPeaceful (by omega) (by omega) f1 (fun pc => bI_in ⟨fun c => absurd c (by decide +kernel), fun _ => ?_⟩) (fun pc => bI_in ⟨fun _ => st _ (fun _ c => absurd c pc), fun c => absurd wr_0 c⟩)⟩⟩⟩
    exact AW.weak (hi2 _ (bestP_move hy (Classical.not_not.mp z2) pc (by omega))) (by simp [leP])
theorem bestQ_stay {V : VV} {n y : Int} (hy : bestQ V 0 n y) (hh : subS n (btS V 2) → PcS V (iAnd (btS V 2) (iXor n (-1))) → iBC y < iBC n ∨ (iBC n = iBC y ∧ y ≤ n)) : bestQ V 0 (n + 1) y :=
  ⟨hy.1, hy.2.1, hy.2.2.1, fun s s0 s1 a1 a2 => by
    by_cases e : s = n
    · rw [e] at a1 a2 ⊢
      exact hh a1 a2
    · exact hy.2.2.2 s s0 (by omega) a1 a2⟩
theorem bestQ_move {V : VV} {n y : Int} (hy : bestQ V 0 n y) (n0 : 0 ≤ n) (n1 : n < 64) (h1 : subS n (btS V 2)) (h2 : PcS V (iAnd (btS V 2) (iXor n (-1)))) (h3 : iBC n < iBC y) : bestQ V 0 (n + 1) n :=
  ⟨⟨n0, n1⟩, h1, h2, fun s s0 s1 a1 a2 => by
    by_cases e : s = n
    · rw [e]; exact Or.inr ⟨rfl, Int.le_refl _⟩
    · have := hy.2.2.2 s s0 (by omega) a1 a2
      omega⟩
theorem bestQ_dstay {V : VV} {m n y : Int} (hy : bestQ V m n y) (hh : subS (m - 1) (btS V 2) → PcS V (iAnd (btS V 2) (iXor (m - 1) (-1))) → iBC y < iBC (m - 1)) : bestQ V (m - 1) n y :=
  ⟨hy.1, hy.2.1, hy.2.2.1, fun s s0 s1 a1 a2 => by
    by_cases e : s = m - 1
    · rw [e] at a1 a2 ⊢
      exact Or.inl (hh a1 a2)
    · exact hy.2.2.2 s (by omega) s1 a1 a2⟩
theorem bestQ_dmove {V : VV} {m n y : Int} (hy : bestQ V m n y) (n0 : 0 ≤ m - 1) (n1 : m - 1 < 64) (h1 : subS (m - 1) (btS V 2)) (h2 : PcS V (iAnd (btS V 2) (iXor (m - 1) (-1)))) (h3 : iBC (m - 1) ≤ iBC y) : bestQ V (m - 1) n (m - 1) :=
  ⟨⟨n0, n1⟩, h1, h2, fun s s0 s1 a1 a2 => by
    by_cases e : s = m - 1
    · rw [e]; exact Or.inr ⟨rfl, Int.le_refl _⟩
    · have := hy.2.2.2 s (by omega) s1 a1 a2
      omega⟩
theorem bestQ_all {V : VV} (hV : WF V) {m n : Int} (hn : n ≤ m) : bestQ V m n (btS V 2) := by
  have hb := (btS_bt hV (s := 2)).1
  refine ⟨hb, fun _ _ _ h => h, ?_, fun s s0 s1 => absurd s1 (by omega)⟩
  have : iAnd (btS V 2) (iXor (btS V 2) (-1)) = 0 := (sub_ask hb.1 hb.2 hb.1 hb.2).1.mpr (fun _ _ _ h => h)
  rw [this]
  exact fun a c _ _ _ _ ha _ => absurd ha (fun c => bt_0 c)
theorem k_quiet (h : CS g V V) (hz : ZP V) (kk : ∀ g' r, kC g g' → bestQ V 0 64 r → K (.inl (vI r)) (stt g')) : Ct Γ l (d + 7) b yX11_quiet mX11_quiet [vR 1] (stt g) K := by
  have hb := (btS_bt h.2.1 (s := 2)).1
  apply wpX11_quiet
  refine k_bitsOf h.1 h.2.1 (by decide) (by decide) (bI_in ?_)
  refine k_fillAgainst h hz fun g1 o1 f1 => bV_in ?_
  -- all of the held ones are as large as any; what is kept is no larger
  refine up_loop (P := fun i => ∀ y, bestQ V 0 i y → (y < (i : Int) ∨ y = btS V 2) → AW Γ l mX11_quiet (d + 7) b 17 [vR 1, vI (btS V 2), vI y, vI i, vU] [] (stt g1) K) (N := 64) (fun y hy _ => ?_) (fun i hi9 hi y hy hl => ?_) 0 (Nat.zero_le _) _ (bestQ_all h.2.1 (by omega)) (Or.inr rfl)
  · apply wpX11_quiet_17
    exact ⟨fun _ => kk g1 y o1.c hy, fun z => absurd (show 64 ≤ wr ((64 : Nat) : Int) by decide +kernel) z⟩
  · have hi2 : ∀ y, bestQ V 0 ((i : Int) + 1) y → (y < (i : Int) + 1 ∨ y = btS V 2) → AW Γ l mX11_quiet (d + 7) b 17 [vR 1, vI (btS V 2), vI y, vI ((i : Int) + 1), vU] [] (stt g1) K := hi
    have ey := iBC_64 hy.1.1 hy.1.2
    have es := iBC_64 (x := (i : Int)) (by omega) (by omega)
    have hs := subS_iff (s := (i : Int)) h.2.1 (by omega) (by omega)
    have hx := sub_ask hb.1 hb.2 (t := (i : Int)) (by omega) (by omega)
    have st : ∀ v : AV, (subS i (btS V 2) → PcS V (iAnd (btS V 2) (iXor i (-1))) → iBC y < iBC i ∨ (iBC i = iBC y ∧ y ≤ i)) → AW Γ l mX11_quiet (d + 7) b 17 [vR 1, vI (btS V 2), vI y, vI ((i : Int) + 1), v] [] (stt g1) K := fun v hh => AW.weak (hi2 y (bestQ_stay hy hh) (by omega)) (by simp [leP])
    apply wpX11_quiet_17
    rw [wr_id (x := (i : Int)) (by omega) (by omega), ey.2, es.2, wr_iAnd, hs]
    refine ⟨fun z => absurd z (by omega), fun _ => ⟨fun z => ⟨fun z2 => st _ (fun c => absurd c z2), fun z2 => st _ (fun c _ => ?_)⟩, fun z => ⟨fun z2 => st _ (fun c => absurd c z2), fun z2 => k_isPeaceful hx.2.2.1.1 hx.2.2.1.2 f1 (fun pc => bI_in ⟨fun c => absurd c (by decide +kernel), fun _ => ?_⟩) (fun pc => bI_in ⟨fun _ => st _ (fun _ c => absurd c pc), fun c => absurd wr_0 c⟩)⟩⟩⟩
    · rcases hl with hl | hl
      · omega
      · have h2 := (sub_ask (s := (i : Int)) (by omega) (by omega) hb.1 hb.2).2.1 (hs.mpr c)
        rw [hl] at z ⊢
        have h3 : (i : Int) = btS V 2 := h2.2.2 (by omega)
        rw [h3]
        exact Or.inr ⟨rfl, Int.le_refl _⟩
    · exact AW.weak (hi2 _ (bestQ_move hy (by omega) (by omega) (Classical.not_not.mp z2) pc (by omega)) (Or.inl (by omega))) (by simp [leP])
end PC
