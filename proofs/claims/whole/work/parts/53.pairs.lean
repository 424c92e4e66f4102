/-! PEOPLE TWO BY TWO: the class's search -/
theorem aa_f {V : VV} (hV : WF V) : ∀ p q, 0 ≤ p → p < 6 → 0 ≤ q → q < 6 → 0 ≤ aaS V p q ∧ aaS V p q ≤ 12 := fun p q p0 p1 q0 q1 => by
  have hp := hV.pn p0 p1
  have hq := hV.pn q0 q1
  have := aaS_rng (V := V) (p := p) (q := q) hp.1.1 hq.1.1
  omega
/-- who is free from one person on -/
def PRel (g : GG) (F n pe : Int) : Prop := ∀ q, 0 ≤ q → q < 6 → (-1 ≤ g 168 q ∧ g 168 q ≤ 5) ∧ (bt F q ↔ pe ≤ q ∧ q < n ∧ g 168 q = -1)
def rowB (f : Int → Int → Int) (n : Int) (pr : Int → Int) (F q : Int) : Int := if F.toNat.testBit q.toNat = true then wtS f n F q else pr q
def onlyP (g g' : GG) : Prop := ∀ a j, ¬ (a = 167 ∧ j = 2) → a ≠ 169 → g' a j = g a j
/-- what a search leaves: the most, and the way to it if it is more than was there -/
def PEnd (f : Int → Int → Int) (n : Int) (g g' : GG) (F al : Int) : Prop :=
  onlyP g g' ∧ (al + pdS f n F ≤ g 167 2 → g' 167 2 = g 167 2 ∧ ∀ q, 0 ≤ q → q < 6 → g' 169 q = g 169 q) ∧ (g 167 2 < al + pdS f n F → g' 167 2 = al + pdS f n F ∧ ∀ q, 0 ≤ q → q < 6 → g' 169 q = rowB f n (g 168) F q)
section PK
variable {Γ : Cfg} {l : Launch} {V : VV}
theorem k_keep {d b : Nat} {g : GG} {K : Ou → HP → Prop} {al : Int} (a0 : 0 ≤ al) (a1 : al ≤ 1000) (m0 : -1 ≤ g 167 2) (m1 : g 167 2 ≤ 1000) (kk : ∀ g', onlyP g g' → (al ≤ g 167 2 → g' 167 2 = g 167 2 ∧ ∀ q, 0 ≤ q → q < 6 → g' 169 q = g 169 q) → (g 167 2 < al → g' 167 2 = al ∧ ∀ q, 0 ≤ q → q < 6 → g' 169 q = g 168 q) → K (.inl vU) (stt g')) : Ct Γ l (d + 1) b yX6_keepIfMore mX6_keepIfMore [vR 167, vI al] (stt g) K := by
  have l168 : ln 168 = 6 := by decide +kernel
  have l169 : ln 169 = 6 := by decide +kernel
  apply wpX6_keepIfMore
  rw [wr_id (x := al) (by omega) (by omega), wr_id (x := g 167 2) (by omega) (by omega)]
  refine ⟨fun z => kk g (fun _ _ _ _ => rfl) (fun _ => ⟨rfl, fun _ _ _ => rfl⟩) (fun c => absurd c (by omega)), fun z => ?_⟩
  refine up_loop (P := fun i => ∀ g1, onlyP g g1 → g1 167 2 = al → (∀ q, 0 ≤ q → q < (i : Int) → g1 169 q = g 168 q) → AW Γ l mX6_keepIfMore (d + 1) b 15 [vR 167, vI al, vI i] [] (stt g1) K) (N := 6) (fun g1 o1 e1 f1 => ?_) (fun i hi9 hi g1 o1 e1 f1 => ?_) 0 (Nat.zero_le _) _ (fun a j h1 h2 => ?_) upd2_eq (fun q q0 q1 => absurd q1 (by omega))
  · apply wpX6_keepIfMore_15
    exact ⟨fun _ => kk g1 o1 (fun c => absurd c (by omega)) (fun _ => ⟨e1, f1⟩), fun c => absurd (show 6 ≤ wr ((6 : Nat) : Int) by decide +kernel) c⟩
  · apply wpX6_keepIfMore_15
    rw [wr_id (x := (i : Int)) (by omega) (by omega), puc_in (by omega) (by rw [l169]; omega), cel_in (by omega) (by rw [l168]; omega)]
    refine ⟨fun c => absurd c (by omega), fun _ => hi _ (fun a j h1 h2 => by rw [upd2_ne h2, o1 a j h1 h2]) (by rw [upd2_ne (by decide), e1]) (fun q q0 q1 => ?_)⟩
    by_cases c : q = i
    · rw [c, upd2_eq, o1 _ _ (by omega) (by decide)]
    · rw [upd2_nj c, f1 q q0 (by omega)]
  · by_cases c : a = 167
    · exact upd2_nj (fun z => h1 ⟨c, z⟩)
    · exact upd2_ne c
theorem row_end {f : Int → Int → Int} {n F : Int} (hf : ∀ p q, 0 ≤ p → p < 6 → 0 ≤ q → q < 6 → 0 ≤ f p q ∧ f p q ≤ 12) (n0 : 0 ≤ n) (n1 : n ≤ 6) (s0 : 0 < F) (s1 : F < 64) (pr : Int → Int) {q : Int} (q0 : 0 ≤ q) (q1 : q < 6) : (if q = iNTZ F then osP f n F else if q = osP f n F then iNTZ F else rowB f n pr (nxS F (osP f n F)) q) = rowB f n pr F q := by
  have z := ntz_s s0 s1
  have o := os_ok hf n0 n1 s0 s1
  have nx := (nx_ok s0 s1 o.1.1 (show osP f n F < 6 by omega)).2 q q0 q1
  have pr0 := pd_r (n := n) (s := F) hf n0 n1 (by omega) s1
  have e := wtS_eq hf n0 n1 s0 s1 (q := q)
  have r1 := rm_ok (s := F) (p := iNTZ F) (by omega) s1 z.1.1 z.1.2
  -- the one that goes along is of the set
  have ob : osP f n F ≠ -1 → bt F (osP f n F) := fun c => by
    have h := o.2.1
    unfold chP at h
    rw [if_neg c] at h
    by_cases t : (rmS F (iNTZ F)).toNat.testBit (osP f n F).toNat = true
    · exact ((r1.2.1 _ (by omega) (by omega)).mp t).1
    · rw [if_neg t] at h; omega
  unfold rowB
  unfold bt at nx ob
  by_cases c1 : q = iNTZ F
  · rw [if_pos c1, if_pos (by rw [c1]; exact z.2.1), e, if_pos c1.symm]
  · rw [if_neg c1]
    by_cases c2 : q = osP f n F
    · rw [if_pos c2, if_pos (by rw [c2]; exact ob (by omega)), e, if_neg (fun h => c1 h.symm), if_pos c2.symm]
    · rw [if_neg c2]
      by_cases t : F.toNat.testBit q.toNat = true
      · rw [if_pos (nx.mpr ⟨t, c1, c2⟩), if_pos t, e, if_neg (fun h => c1 h.symm), if_neg (fun h => c2 h.symm)]
      · rw [if_neg (fun h => t (nx.mp h).1), if_neg t]
theorem onlyP.h {g g' : GG} (o : onlyP g g') (h : HRel g 8 V) : HRel g' 8 V := h.fr fun a j a0 a1 => o a j (by omega) (by omega)
theorem k_pairFrom (hV : WF V) : ∀ (k : Nat) {D d b : Nat} {g : GG} {K : Ou → HP → Prop} {pe F al : Int}, D = d + k + 3 → HRel g 8 V → 0 ≤ pe → pe + k = V 0 → 0 ≤ F → F < 64 → PRel g F (V 0) pe → 0 ≤ al → al ≤ 12 * pe → -1 ≤ g 167 2 → g 167 2 ≤ 1000 →
    (∀ g', PEnd (aaS V) (V 0) g g' F al → K (.inl vU) (stt g')) → Ct Γ l D b yX6_pairFrom mX6_pairFrom [vR 167, vR 8, vI pe, vI al] (stt g) K
  | 0, D, d, b, g, K, pe, F, al, hD, h, p0, pn, F0, F1, hp, a0, a1, m0, m1, kk => by
    have h6 := hV.1.1
    obtain ⟨E, rfl⟩ : ∃ E, D = E + 3 := ⟨d, by omega⟩
    have eF : F = 0 := set_ext F0 F1 (by decide) (by decide) fun q q0 q1 => ⟨fun hb => by have := ((hp q q0 q1).2.mp hb); omega, fun hb => absurd hb (fun c => bt_0 c)⟩
    apply wpX6_pairFrom h.hi
    rw [h.ppl, wr_id (x := V 0) (by omega) (by omega), wr_id (x := pe) (by omega) (by omega)]
    refine ⟨fun c => absurd c (by omega), fun _ => k_keep a0 (by omega) m0 m1 fun g' o e1 e2 => bV_in (kk g' ⟨o, ?_, ?_⟩)⟩
    · rw [eF, pdS_0, Int.add_zero]; exact e1
    · rw [eF, pdS_0, Int.add_zero]
      refine fun c => ⟨(e2 c).1, fun q q0 q1 => ?_⟩
      unfold rowB
      rw [(e2 c).2 q q0 q1, if_neg (show ¬ (Int.toNat 0).testBit q.toNat = true from fun t => bt_0 (p := q) t)]
  | k + 1, D, d, b, g, K, pe, F, al, hD, h, p0, pn, F0, F1, hp, a0, a1, m0, m1, kk => by
    have h6 := hV.1.1
    obtain ⟨E, rfl⟩ : ∃ E, D = E + 3 := ⟨d + k + 1, by omega⟩
    have hf := aa_f hV
    have l168 : ln 168 = 6 := by decide +kernel
    have hpe := hp pe p0 (by omega)
    apply wpX6_pairFrom h.hi
    rw [h.ppl, wr_id (x := V 0) (by omega) (by omega), wr_id (x := pe) (by omega) (by omega)]
    refine ⟨fun _ => ?_, fun c => absurd (show pe < V 0 by omega) c⟩
    by_cases fr : g 168 pe = -1
    · have bF : bt F pe := hpe.2.mpr ⟨Int.le_refl _, by omega, fr⟩
      have s0 : 0 < F := by
        by_cases c : F = 0
        · rw [c] at bF; exact absurd bF (fun c => bt_0 c)
        · omega
      have z := ntz_s s0 F1
      have ez : iNTZ F = pe := by
        have a := (hp _ z.1.1 z.1.2).2.mp z.2.1
        by_cases c : pe < iNTZ F
        · exact absurd bF (z.2.2 pe p0 c)
        · omega
      have r1 := rm_ok (s := F) (p := pe) F0 F1 p0 (by omega)
      have os := os_ok hf h6.1 h6.2 s0 F1
      have c1 : chP (aaS V) (pdS (aaS V) (V 0)) F (-1) = pdS (aaS V) (V 0) (rmS F pe) := by unfold chP; rw [if_pos rfl, ez]
      have n1 : nxS F (-1) = rmS F pe := by unfold nxS; rw [if_pos rfl, ez]
      have pr1 := pd_r (n := V 0) (s := rmS F pe) hf h6.1 h6.2 r1.1.1 r1.1.2
      have rend := fun (pr : Int → Int) (q : Int) (q0 : 0 ≤ q) (q1 : q < 6) => row_end hf h6.1 h6.2 s0 F1 pr q0 q1
      rw [ez] at rend
      refine k_pairFrom hV k (d := d) (F := rmS F pe) (by omega) h (by omega) (by omega) r1.1.1 r1.1.2 (fun q q0 q1 => ⟨(hp q q0 q1).1, ?_⟩) a0 (by omega) m0 m1 fun g1 ⟨o1, e1, e2⟩ => bV_in ?_
      · rw [r1.2.1 q q0 q1, (hp q q0 q1).2]; omega
      · have o168 : ∀ j, g1 168 j = g 168 j := fun j => o1 _ _ (by omega) (by decide)
        rw [cel_in p0 (by rw [l168]; omega), o168, fr]
        refine ⟨fun _ => ?_, fun c => absurd (show wr (-1) = -1 by decide +kernel) c⟩
        -- the others, one by one
        have z9 := up_loop (P := fun i => ∀ g2, onlyP g g2 → (∀ j, -1 ≤ j → j < pe + 1 + (i : Int) → al + chP (aaS V) (pdS (aaS V) (V 0)) F j ≤ g2 167 2) → g 167 2 ≤ g2 167 2 → g2 167 2 ≤ 1000 →
            ((g2 167 2 = g 167 2 ∧ ∀ q, 0 ≤ q → q < 6 → g2 169 q = g 169 q) ∨ (g 167 2 < g2 167 2 ∧ ∃ c, (-1 ≤ c ∧ c < pe + 1 + (i : Int)) ∧ g2 167 2 = al + chP (aaS V) (pdS (aaS V) (V 0)) F c ∧ (∀ j, -1 ≤ j → j < c → chP (aaS V) (pdS (aaS V) (V 0)) F j < chP (aaS V) (pdS (aaS V) (V 0)) F c) ∧ ∀ q, 0 ≤ q → q < 6 → g2 169 q = if q = pe then c else if q = c then pe else rowB (aaS V) (V 0) (g 168) (nxS F c) q)) →
            AW Γ l mX6_pairFrom (E + 3) b 41 [vR 167, vR 8, vI pe, vI al, vI (pe + 1 + (i : Int))] [] (stt g2) K) (N := k) (fun g2 o2 f1 f2 f3 f4 => ?_) (fun i hi9 hi g2 o2 f1 f2 f3 f4 => ?_) 0 (Nat.zero_le _) g1 o1 ?_ ?_ ?_ ?_
        · rw [show pe + 1 + ((0 : Nat) : Int) = pe + 1 by omega] at z9
          exact z9
        · -- all were looked at
          have h2 := o2.h h
          apply wpX6_pairFrom_41 h2.hi
          rw [h2.ppl, wr_id (x := V 0) (by omega) (by omega), wr_id (x := pe + 1 + (k : Int)) (by omega) (by omega)]
          refine ⟨fun _ => kk g2 ⟨o2, fun le => ?_, fun lt => ?_⟩, fun c => absurd (show V 0 ≤ pe + 1 + (k : Int) by omega) c⟩
          · rcases f4 with f | ⟨f, c, c1, c2, _, _⟩
            · exact f
            · have := os.2.2.2 c c1.1 (by omega); omega
          · have fo := f1 _ os.1.1 (by omega)
            rw [os.2.1] at fo
            rcases f4 with f | ⟨f, c, c1, c2, c3, c4⟩
            · omega
            · have hc := os.2.2.2 c c1.1 (by omega)
              have ec : c = osP (aaS V) (V 0) F := by
                have t1 : ¬ c < osP (aaS V) (V 0) F := fun t => by have := os.2.2.1 c c1.1 t; omega
                have t2 : ¬ osP (aaS V) (V 0) F < c := fun t => by
                  have := c3 _ os.1.1 t
                  rw [os.2.1] at this; omega
                omega
              refine ⟨by omega, fun q q0 q1 => ?_⟩
              rw [c4 q q0 q1, ec, rend (g 168) q q0 q1]
        · have h2 := o2.h h
          have o268 : ∀ j, g2 168 j = g 168 j := fun j => o2 _ _ (by omega) (by decide)
          have ho := hp (pe + 1 + (i : Int)) (by omega) (by omega)
          have hi2 : ∀ g2 : GG, onlyP g g2 → (∀ j, -1 ≤ j → j < pe + 1 + (i : Int) + 1 → al + chP (aaS V) (pdS (aaS V) (V 0)) F j ≤ g2 167 2) → g 167 2 ≤ g2 167 2 → g2 167 2 ≤ 1000 →
            ((g2 167 2 = g 167 2 ∧ ∀ q, 0 ≤ q → q < 6 → g2 169 q = g 169 q) ∨ (g 167 2 < g2 167 2 ∧ ∃ c, (-1 ≤ c ∧ c < pe + 1 + (i : Int) + 1) ∧ g2 167 2 = al + chP (aaS V) (pdS (aaS V) (V 0)) F c ∧ (∀ j, -1 ≤ j → j < c → chP (aaS V) (pdS (aaS V) (V 0)) F j < chP (aaS V) (pdS (aaS V) (V 0)) F c) ∧ ∀ q, 0 ≤ q → q < 6 → g2 169 q = if q = pe then c else if q = c then pe else rowB (aaS V) (V 0) (g 168) (nxS F c) q)) →
            AW Γ l mX6_pairFrom (E + 3) b 41 [vR 167, vR 8, vI pe, vI al, vI (pe + 1 + (i : Int) + 1)] [] (stt g2) K := by
            rw [show pe + 1 + (i : Int) + 1 = pe + 1 + ((i + 1 : Nat) : Int) by omega]
            exact hi
          have ge0 : al ≤ g2 167 2 := by have := f1 (-1) (by omega) (by omega); rw [c1] at this; omega
          apply wpX6_pairFrom_41 h2.hi
          rw [h2.ppl, wr_id (x := V 0) (by omega) (by omega), wr_id (x := pe + 1 + (i : Int)) (by omega) (by omega), cel_in (by omega) (by rw [l168]; omega), o268, wr_id (x := g 168 (pe + 1 + (i : Int))) (by omega) (by omega)]
          have eo : nxS F (pe + 1 + (i : Int)) = rmS (rmS F pe) (pe + 1 + (i : Int)) := by unfold nxS; rw [if_neg (by omega), ez]
          have nxo := nx_ok s0 F1 (o := pe + 1 + (i : Int)) (by omega) (by omega)
          rw [ez] at nxo
          have co : chP (aaS V) (pdS (aaS V) (V 0)) F (pe + 1 + (i : Int)) = if (rmS F pe).toNat.testBit (pe + 1 + (i : Int)).toNat = true then aaS V pe (pe + 1 + (i : Int)) + pdS (aaS V) (V 0) (nxS F (pe + 1 + (i : Int))) else -1 := by
            unfold chP
            rw [if_neg (by omega), ez, eo]
          have bo : bt (rmS F pe) (pe + 1 + (i : Int)) ↔ g 168 (pe + 1 + (i : Int)) = -1 := by
            rw [r1.2.1 _ (by omega) (by omega), ho.2]
            omega
          have o0 : 0 ≤ pe + 1 + (i : Int) := by omega
          have o1' : pe + 1 + (i : Int) < V 0 := by omega
          have op : pe < pe + 1 + (i : Int) := by omega
          generalize pe + 1 + (i : Int) = o at *
          -- it cannot be, or is not better
          have stay : ∀ g3 : GG, onlyP g g3 → g3 167 2 = g2 167 2 → (∀ q, 0 ≤ q → q < 6 → g3 169 q = g2 169 q) → al + chP (aaS V) (pdS (aaS V) (V 0)) F o ≤ g2 167 2 → AW Γ l mX6_pairFrom (E + 3) b 41 [vR 167, vR 8, vI pe, vI al, vI (o + 1)] [] (stt g3) K := fun g3 q3 w2 w9 le => by
            refine hi2 g3 q3 (fun j j0 j1 => ?_) (by omega) (by omega) ?_
            · rw [w2]
              by_cases e : j = o
              · rw [e]; exact le
              · exact f1 j j0 (by omega)
            · rcases f4 with ⟨f, f'⟩ | ⟨f, c, c1, c2, c3, c4⟩
              · exact Or.inl ⟨by omega, fun q q0 q1 => by rw [w9 q q0 q1, f' q q0 q1]⟩
              · exact Or.inr ⟨by omega, c, ⟨c1.1, by omega⟩, by omega, c3, fun q q0 q1 => by rw [w9 q q0 q1, c4 q q0 q1]⟩
          refine ⟨fun c => absurd c (by omega), fun _ => ⟨fun c => stay g2 o2 rfl (fun _ _ _ => rfl) ?_, fun c => ?_⟩⟩
          · rw [co, if_neg (show ¬ (rmS F pe).toNat.testBit o.toNat = true from fun t => c (bo.mp t))]
            omega
          · have fo : g 168 o = -1 := Decidable.not_not.mp c
            have bof := bo.mpr fo
            rw [if_pos (show (rmS F pe).toNat.testBit o.toNat = true from bof)] at co
            rw [puc_in p0 (by rw [l168]; omega), puc_in o0 (by rw [l168]; omega)]
            have h3 : HRel (upd2 (upd2 g2 168 pe o) 168 o pe) 8 V := h2.fr fun a j a0 a1 => by rw [upd2_ne (by omega), upd2_ne (by omega)]
            refine k_alikeInAll h3 hV p0 (by omega) o0 (by omega) (bI_in ?_)
            have hfo := hf pe o p0 (by omega) o0 (by omega)
            have m3 : upd2 (upd2 g2 168 pe o) 168 o pe 167 2 = g2 167 2 := by rw [upd2_ne (by decide), upd2_ne (by decide)]
            have v3 : ∀ q, upd2 (upd2 g2 168 pe o) 168 o pe 168 q = if q = o then pe else if q = pe then o else g 168 q := fun q => by
              by_cases e1 : q = o
              · rw [if_pos e1, e1, upd2_eq]
              · rw [if_neg e1, upd2_nj e1]
                by_cases e2 : q = pe
                · rw [if_pos e2, e2, upd2_eq]
                · rw [if_neg e2, upd2_nj e2, o268]
            have b3 : ∀ q, upd2 (upd2 g2 168 pe o) 168 o pe 169 q = g2 169 q := fun q => by rw [upd2_ne (by decide), upd2_ne (by decide)]
            have w3 : ∀ a j, a ≠ 168 → upd2 (upd2 g2 168 pe o) 168 o pe a j = g2 a j := fun a j ha => by rw [upd2_ne ha, upd2_ne ha]
            generalize upd2 (upd2 g2 168 pe o) 168 o pe = g3 at h3 m3 v3 b3 w3 ⊢
            refine k_pairFrom hV k (d := d) (F := nxS F o) (by omega) h3 (by omega) (by omega) nxo.1.1 (by omega) (fun q q0 q1 => ?_) (by omega) (by omega) (by omega) (by omega) fun g4 ⟨o4, e4, e5⟩ => bV_in ?_
            · have hq := hp q q0 q1
              rw [v3, nxo.2 q q0 q1, hq.2]
              by_cases e1 : q = o
              · rw [if_pos e1]; omega
              · rw [if_neg e1]
                by_cases e2 : q = pe
                · rw [if_pos e2]; omega
                · rw [if_neg e2]; omega
            · intro g5 e6
              rw [puc_in p0 (by rw [l168]; omega), puc_in o0 (by rw [l168]; omega)] at e6
              have w5 : ∀ a j, a ≠ 168 → g5 a j = g4 a j := fun a j ha => by rw [e6, upd2_ne ha, upd2_ne ha]
              have v5 : ∀ q, g5 168 q = g 168 q := fun q => by
                by_cases x1 : q = o
                · rw [e6, x1, upd2_eq, fo]
                · rw [e6, upd2_nj x1]
                  by_cases x2 : q = pe
                  · rw [x2, upd2_eq, fr]
                  · rw [upd2_nj x2, o4 _ _ (by omega) (by decide), v3, if_neg x1, if_neg x2]
              have q5 : onlyP g g5 := fun a j ha h9 => by
                by_cases x : a = 168
                · rw [x, v5]
                · rw [w5 a j x, o4 a j ha h9, w3 a j x, o2 a j ha h9]
              by_cases le : al + chP (aaS V) (pdS (aaS V) (V 0)) F o ≤ g2 167 2
              · have e4 := e4 (by rw [m3]; omega)
                exact stay g5 q5 (by rw [w5 _ _ (by decide), e4.1, m3]) (fun q q0 q1 => by rw [w5 _ _ (by decide), e4.2 q q0 q1, b3]) le
              · have e5 := e5 (by rw [m3]; omega)
                have n2 : g5 167 2 = al + chP (aaS V) (pdS (aaS V) (V 0)) F o := by rw [w5 _ _ (by decide), e5.1, co]; omega
                have chr := ch_r (j := o) hf h6.1 h6.2 s0 F1 (by omega) (by omega)
                refine hi2 g5 q5 (fun j j0 j1 => ?_) (by omega) (by omega) (Or.inr ⟨by omega, o, ⟨by omega, by omega⟩, n2, fun j j0 j1 => ?_, fun q q0 q1 => ?_⟩)
                · by_cases e : j = o
                  · rw [e, n2]; exact Int.le_refl _
                  · have := f1 j j0 (by omega); omega
                · have := f1 j j0 j1; omega
                · rw [w5 _ _ (by decide), e5.2 q q0 q1]
                  unfold rowB
                  by_cases x2 : q = pe
                  · rw [if_pos x2, if_neg (show ¬ (nxS F o).toNat.testBit q.toNat = true from fun t => ((nxo.2 q q0 q1).mp t).2.1 x2), v3, if_neg (by omega), if_pos x2]
                  · rw [if_neg x2]
                    by_cases x1 : q = o
                    · rw [if_pos x1, if_neg (show ¬ (nxS F o).toNat.testBit q.toNat = true from fun t => ((nxo.2 q q0 q1).mp t).2.2 x1), v3, if_pos x1]
                    · rw [if_neg x1]
                      by_cases t : (nxS F o).toNat.testBit q.toNat = true
                      · rw [if_pos t, if_pos t]
                      · rw [if_neg t, if_neg t, v3, if_neg x1, if_neg x2]
        · intro j j0 j1
          have ge1 : al + pdS (aaS V) (V 0) (rmS F pe) ≤ g1 167 2 := by
            by_cases c : al + pdS (aaS V) (V 0) (rmS F pe) ≤ g 167 2
            · rw [(e1 c).1]; exact c
            · rw [(e2 (by omega)).1]; exact Int.le_refl _
          by_cases x : j = -1
          · rw [x, c1]; exact ge1
          · have : chP (aaS V) (pdS (aaS V) (V 0)) F j = -1 := by
              unfold chP
              rw [if_neg x, ez, if_neg]
              intro t
              have := (r1.2.1 j (by omega) (by omega)).mp t
              have := (hp j (by omega) (by omega)).2.mp this.1
              omega
            rw [this]; omega
        · by_cases c : al + pdS (aaS V) (V 0) (rmS F pe) ≤ g 167 2
          · rw [(e1 c).1]; exact Int.le_refl _
          · rw [(e2 (by omega)).1]; omega
        · by_cases c : al + pdS (aaS V) (V 0) (rmS F pe) ≤ g 167 2
          · rw [(e1 c).1]; exact m1
          · rw [(e2 (by omega)).1]; omega
        · by_cases c : al + pdS (aaS V) (V 0) (rmS F pe) ≤ g 167 2
          · exact Or.inl (e1 c)
          · have e2 := e2 (by omega)
            refine Or.inr ⟨by omega, -1, ⟨by omega, by omega⟩, by rw [c1]; exact e2.1, fun j j0 j1 => absurd j1 (by omega), fun q q0 q1 => ?_⟩
            rw [e2.2 q q0 q1, n1]
            by_cases x : q = pe
            · rw [if_pos x]
              unfold rowB
              rw [if_neg (show ¬ (rmS F pe).toNat.testBit q.toNat = true from fun t => ((r1.2.1 q q0 q1).mp t).2 x), x, fr]
            · rw [if_neg x, if_neg (by omega)]
    · have bF : ¬ bt F pe := fun c => fr (hpe.2.mp c).2.2
      refine k_pairFrom hV k (d := d) (F := F) (by omega) h (by omega) (by omega) F0 F1 (fun q q0 q1 => ⟨(hp q q0 q1).1, ?_⟩) a0 (by omega) m0 m1 fun g1 e1 => bV_in ?_
      · rw [(hp q q0 q1).2]
        refine ⟨fun t => ⟨?_, t.2⟩, fun t => ⟨by omega, t.2⟩⟩
        have : q ≠ pe := fun e => fr (e ▸ t.2.2)
        omega
      · rw [cel_in p0 (by rw [l168]; omega), e1.1 _ _ (by omega) (by decide), wr_id (x := g 168 pe) (by omega) (by omega)]
        exact ⟨fun c => absurd c fr, fun _ => kk g1 e1⟩
end PK
