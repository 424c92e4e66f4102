/-! THE SCALES: words read on the class's side -/
def clA (g : GG) (t : Int) (c : CL) : Prop := ∀ f, 0 ≤ f → f < 6 → g t (2 + f) = c f
def leP : List AV → List AV → Prop
  | _, [] => True
  | [], _ :: _ => False
  | x :: r, y :: q => (y = vU ∨ x = y) ∧ leP r q
theorem leP_at : ∀ {L L' : List AV}, leP L L' → ∀ (i : Nat) (v : AV), L'[i]? = some v → v = vU ∨ L[i]? = some v
  | _, [], _, i, v, h => by simp at h
  | [], _ :: _, hl, _, _, _ => hl.elim
  | x :: r, y :: q, hl, 0, v, h => by
    simp only [List.getElem?_cons_zero, Option.some.injEq] at h ⊢
    subst h
    exact hl.1
  | x :: r, y :: q, hl, i + 1, v, h => by
    simp only [List.getElem?_cons_succ] at h ⊢
    exact leP_at hl.2 i v h
section RD
variable {Γ : Cfg} {l : Launch} {d b : Nat} {g : GG} {K : Ou → HP → Prop}
theorem AW.weak {M : MT} {pc : Nat} {L L' S : List AV} {h : HP} (k : AW Γ l M d b pc L' S h K) (hl : leP L L') : AW Γ l M d b pc L S h K := AW.locals k (leP_at hl)
theorem clA.up {t j v : Int} {c : CL} (h : clA g t c) : clA (upd2 g t j v) t (upV c (j - 2) v) := by
  intro f f0 f1
  by_cases e : f = j - 2
  · rw [e, upV_eq, show (2 : Int) + (j - 2) = j by omega, upd2_eq]
  · rw [upV_ne e, upd2_nj (by omega), h f f0 f1]
theorem k_clear {t : Int} (ht : CU t) (kk : ∀ g', clA g' t eC → (∀ a j, a ≠ t → g' a j = g a j) → K (.inl vU) (stt g')) : Ct Γ l d b yX0_clear mX0_clear [vR t] (stt g) K := by
  apply wpX0_clear ht
  intro g1 e1 g2 e2
  refine kk g2 (fun f f0 f1 => ?_) (fun a j ha => ?_)
  · have hf : f = 0 ∨ f = 1 ∨ f = 2 ∨ f = 3 ∨ f = 4 ∨ f = 5 := by omega
    rcases hf with rfl | rfl | rfl | rfl | rfl | rfl
    · rw [e2, upd2_nj (by decide), upd2_nj (by decide), upd2_nj (by decide), e1, upd2_nj (by decide), upd2_nj (by decide)]; exact upd2_eq
    · rw [e2, upd2_nj (by decide), upd2_nj (by decide), upd2_nj (by decide), e1, upd2_nj (by decide)]; exact upd2_eq
    · rw [e2, upd2_nj (by decide), upd2_nj (by decide), upd2_nj (by decide), e1]; exact upd2_eq
    · rw [e2, upd2_nj (by decide), upd2_nj (by decide)]; exact upd2_eq
    · rw [e2, upd2_nj (by decide)]; exact upd2_eq
    · rw [e2]; exact upd2_eq
  · rw [e2, upd2_ne ha, upd2_ne ha, upd2_ne ha, e1, upd2_ne ha, upd2_ne ha, upd2_ne ha]
theorem k_take {t k n : Int} {c : CL} (ht : CU t) (hc : clA g t c) (ho : okC c) (k0 : 0 ≤ k) (k1 : k ≤ 7) (kk : ∀ g', clA g' t (takC c k n) → (∀ a j, a ≠ t → g' a j = g a j) → K (.inl vU) (stt g')) : Ct Γ l d b yX0_take mX0_take [vR t, vI k, vI n] (stt g) K := by
  have c0 : g t 2 = c 0 := hc 0 (by decide) (by decide)
  have c1 : g t 3 = c 1 := hc 1 (by decide) (by decide)
  have c2 : g t 4 = c 2 := hc 2 (by decide) (by decide)
  have c3 : g t 5 = c 3 := hc 3 (by decide) (by decide)
  have c4 : g t 6 = c 4 := hc 4 (by decide) (by decide)
  have c5 : g t 7 = c 5 := hc 5 (by decide) (by decide)
  have o0 := ho.1
  apply wpX0_take ht
  rw [c0, c1, c2, c3, c4, c5, wr_id (x := k) (by omega) (by omega), wr_id (x := c 0) (by omega) (by omega)]
  unfold takC at kk
  refine ⟨fun h2 => ?_, fun h2 => ?_⟩
  · rw [if_neg (by omega)] at kk
    refine ⟨fun h3 => ?_, fun h3 g3 e3 => ?_⟩
    · rw [if_neg h3] at kk
      refine ⟨fun h4 => ?_, fun h4 g2 e2 => ?_⟩
      · rw [if_neg h4] at kk
        refine ⟨fun h5 => ?_, fun h5 => ?_⟩
        · rw [if_neg h5] at kk
          refine ⟨fun h6 => ?_, fun h6 => ?_⟩
          · rw [if_neg h6] at kk
            refine ⟨fun h7 => absurd h7 (by omega), fun h7 g1 e1 => ?_⟩
            rw [e1]
            exact kk _ hc.up (fun a j ha => upd2_ne ha)
          · rw [if_pos (by omega)] at kk
            exact kk _ hc.up (fun a j ha => upd2_ne ha)
        · rw [if_pos (by omega)] at kk
          exact kk _ hc.up (fun a j ha => upd2_ne ha)
      · rw [if_pos (by omega)] at kk
        rw [e2]
        exact kk _ hc.up (fun a j ha => upd2_ne ha)
    · rw [if_pos (by omega)] at kk
      rw [e3]
      exact kk _ hc.up (fun a j ha => upd2_ne ha)
  · rw [if_pos (by omega)] at kk
    refine ⟨fun h9 => ?_, fun h9 => ?_⟩
    · rw [if_neg h9] at kk
      have kk2 : K (.inl vU) (stt g) := kk g (fun f f0 f1 => by
        rw [hc f f0 f1]
        by_cases e : f = 0
        · rw [e, upV_eq]
        · rw [upV_ne e]) (fun _ _ _ => rfl)
      exact ⟨fun _ => ⟨fun _ => ⟨fun _ => ⟨fun _ => ⟨fun _ => kk2, fun h => absurd h (by omega)⟩, fun h => absurd h (by omega)⟩, fun h => absurd h (by omega)⟩, fun h => absurd h (by omega)⟩, fun h => absurd h (by omega)⟩
    · rw [if_pos (by omega)] at kk
      exact kk _ hc.up (fun a j ha => upd2_ne ha)
theorem k_lay {t t1 : Int} {a b9 : CL} (ht : CU t) (ht1 : CU t1) (hn : t1 ≠ t) (ha : clA g t a) (hb : clA g t1 b9) (ho : okC a) (kk : ∀ g', clA g' t (layC a b9) → (∀ x j, x ≠ t → g' x j = g x j) → K (.inl vU) (stt g')) : Ct Γ l d b yX0_lay mX0_lay [vR t, vR t1] (stt g) K := by
  have a0 : g t 2 = a 0 := ha 0 (by decide) (by decide)
  have a1 : g t 3 = a 1 := ha 1 (by decide) (by decide)
  have a2 : g t 4 = a 2 := ha 2 (by decide) (by decide)
  have a3 : g t 5 = a 3 := ha 3 (by decide) (by decide)
  have a4 : g t 6 = a 4 := ha 4 (by decide) (by decide)
  have a5 : g t 7 = a 5 := ha 5 (by decide) (by decide)
  have b0 : g t1 2 = b9 0 := hb 0 (by decide) (by decide)
  have b1 : g t1 3 = b9 1 := hb 1 (by decide) (by decide)
  have b2 : g t1 4 = b9 2 := hb 2 (by decide) (by decide)
  have b3 : g t1 5 = b9 3 := hb 3 (by decide) (by decide)
  have b4 : g t1 6 = b9 4 := hb 4 (by decide) (by decide)
  have b5 : g t1 7 = b9 5 := hb 5 (by decide) (by decide)
  have o0 := ho.1
  have fin : ∀ g1 g2 g3 g4 g5 g0 : GG, (∀ j, j ≠ 2 → g0 t j = g t j) → g0 t 2 = (if a 0 = 0 then b9 0 else a 0) → (∀ x j, x ≠ t → g0 x j = g x j) → g1 = upd2 g0 t 3 (iMin 99 (g0 t 3 + g0 t1 3)) → g2 = upd2 g1 t 4 (iOr (g1 t 4) (g1 t1 4)) → g3 = upd2 g2 t 5 (iMin (g2 t 5) (g2 t1 5)) → g4 = upd2 g3 t 6 (iOr (g3 t 6) (g3 t1 6)) → g5 = upd2 g4 t 7 (iXor (g4 t 7) (g4 t1 7)) → K (.inl vU) (stt g5) := by
    intro g1 g2 g3 g4 g5 g0 z1 z2 z3 e1 e2 e3 e4 e5
    rw [z1 3 (by decide), z3 t1 3 hn, a1, b1] at e1
    have f2 : g1 t 4 = a 2 := by rw [e1, upd2_nj (by decide), z1 4 (by decide), a2]
    have f2' : g1 t1 4 = b9 2 := by rw [e1, upd2_ne hn, z3 _ _ hn, b2]
    rw [f2, f2'] at e2
    have f3 : g2 t 5 = a 3 := by rw [e2, upd2_nj (by decide), e1, upd2_nj (by decide), z1 5 (by decide), a3]
    have f3' : g2 t1 5 = b9 3 := by rw [e2, upd2_ne hn, e1, upd2_ne hn, z3 _ _ hn, b3]
    rw [f3, f3'] at e3
    have f4 : g3 t 6 = a 4 := by rw [e3, upd2_nj (by decide), e2, upd2_nj (by decide), e1, upd2_nj (by decide), z1 6 (by decide), a4]
    have f4' : g3 t1 6 = b9 4 := by rw [e3, upd2_ne hn, e2, upd2_ne hn, e1, upd2_ne hn, z3 _ _ hn, b4]
    rw [f4, f4'] at e4
    have f5 : g4 t 7 = a 5 := by rw [e4, upd2_nj (by decide), e3, upd2_nj (by decide), e2, upd2_nj (by decide), e1, upd2_nj (by decide), z1 7 (by decide), a5]
    have f5' : g4 t1 7 = b9 5 := by rw [e4, upd2_ne hn, e3, upd2_ne hn, e2, upd2_ne hn, e1, upd2_ne hn, z3 _ _ hn, b5]
    rw [f5, f5'] at e5
    refine kk g5 (fun f h0 h1 => ?_) (fun x j hx => ?_)
    · have hf : f = 0 ∨ f = 1 ∨ f = 2 ∨ f = 3 ∨ f = 4 ∨ f = 5 := by omega
      rcases hf with rfl | rfl | rfl | rfl | rfl | rfl
      · rw [e5, upd2_nj (by decide), e4, upd2_nj (by decide), e3, upd2_nj (by decide), e2, upd2_nj (by decide), e1, upd2_nj (by decide)]; exact z2
      · rw [e5, upd2_nj (by decide), e4, upd2_nj (by decide), e3, upd2_nj (by decide), e2, upd2_nj (by decide), e1]; exact upd2_eq
      · rw [e5, upd2_nj (by decide), e4, upd2_nj (by decide), e3, upd2_nj (by decide), e2]; exact upd2_eq
      · rw [e5, upd2_nj (by decide), e4, upd2_nj (by decide), e3]; exact upd2_eq
      · rw [e5, upd2_nj (by decide), e4]; exact upd2_eq
      · rw [e5]; exact upd2_eq
    · rw [e5, upd2_ne hx, e4, upd2_ne hx, e3, upd2_ne hx, e2, upd2_ne hx, e1, upd2_ne hx, z3 _ _ hx]
  apply wpX0_lay ht ht1
  rw [a0, wr_id (x := a 0) (by omega) (by omega)]
  refine ⟨fun h0 g1 e1 g2 e2 g3 e3 g4 e4 g5 e5 => fin g1 g2 g3 g4 g5 g (fun _ _ => rfl) ?_ (fun _ _ _ => rfl) e1 e2 e3 e4 e5, fun h0 g1 e1 g2 e2 g3 e3 g4 e4 g5 e5 => fin g1 g2 g3 g4 g5 (upd2 g t 2 (g t1 2)) (fun j hj => upd2_nj hj) ?_ (fun x j hx => upd2_ne hx) e1 e2 e3 e4 e5⟩
  · rw [if_neg h0, a0]
  · rw [if_pos (by omega), upd2_eq, b0]
theorem k_base {t : Int} {c : CL} (ht : CU t) (hc : clA g t c) (ho : okC c) (kk : K (.inl (vI (baC c))) (stt g)) : Ct Γ l (d + 1) b yX0_base mX0_base [vR t] (stt g) K := by
  have c0 : g t 2 = c 0 := hc 0 (by decide) (by decide)
  have c1 : g t 3 = c 1 := hc 1 (by decide) (by decide)
  have c2 : g t 4 = c 2 := hc 2 (by decide) (by decide)
  have c3 : g t 5 = c 3 := hc 3 (by decide) (by decide)
  have c4 : g t 6 = c 4 := hc 4 (by decide) (by decide)
  have c5 : g t 7 = c 5 := hc 5 (by decide) (by decide)
  obtain ⟨o0, o1, o2, o3, o4, o5⟩ := id ho
  have hr := whC_rng ho
  have b2 := iBC_k o2.1 o2.2
  have b4 := iBC_k o4.1 o4.2
  apply wpX0_base ht
  rw [c0, c1, c2, c3, c4, c5, wr_id (x := c 0) (by omega) (by omega), wr_id (x := c 5) (by omega) (by omega), iMax_id (x := 0) (by omega) (by omega) (by omega) (by omega), show iDiv 0 2 = 0 by decide +kernel]
  unfold baC whC at kk
  refine ⟨fun h1 => ?_, fun h1 => ?_⟩
  · simp only [if_neg h1] at kk
    refine ⟨fun h2 => ?_, fun h2 => ?_⟩
    · simp only [if_neg h2] at kk
      refine ⟨fun h3 => ?_, fun h3 => ?_⟩
      · simp only [if_neg h3] at kk
        refine ⟨fun h5 => ?_, fun h5 => ?_⟩
        · rw [if_neg h5] at kk; exact kk
        · rw [if_pos (by omega)] at kk; exact kk
      · simp only [if_pos (show c 0 = 3 by omega)] at kk
        refine ⟨fun h5 => ?_, fun h5 => ?_⟩
        · rw [if_neg h5] at kk; exact kk
        · rw [if_pos (show c 5 = 1 by omega)] at kk
          rw [iDiv_nn (by omega) (by omega) (by decide) (by decide)]
          exact kk
    · simp only [if_pos (show c 0 = 2 by omega)] at kk
      refine ⟨fun h5 => ?_, fun h5 => ?_⟩
      · rw [if_neg h5] at kk; exact kk
      · rw [if_pos (show c 5 = 1 by omega)] at kk
        rw [iDiv_nn (by omega) (by omega) (by decide) (by decide)]
        exact kk
  · simp only [if_pos (show c 0 = 1 by omega)] at kk
    refine ⟨fun h5 => ?_, fun h5 => ?_⟩
    · rw [if_neg h5] at kk; exact kk
    · rw [if_pos (show c 5 = 1 by omega)] at kk
      rw [iDiv_nn (by omega) (by omega) (by decide) (by decide)]
      exact kk
theorem cel_only {g' : GG} (h : onlyC g g') {r i : Int} (hr : ¬ cW r) : cel g' r i = cel g r i := by
  unfold cel
  by_cases q : 0 ≤ wr i ∧ wr i < ln r
  · rw [if_pos q, if_pos q, h _ _ hr]
  · rw [if_neg q, if_neg q]
theorem onlyC.tr {g1 g2 : GG} (h : onlyC g g1) {t : Int} (ht : cW t) (h2 : ∀ x j, x ≠ t → g2 x j = g1 x j) : onlyC g g2 := fun a j ha => by
  rw [h2 a j (fun e => ha (e ▸ ht)), h a j ha]
/-- behind the words: clauses still open are laid by the modes -/
theorem k_ends {r1 r4 x2 x3 : Int} (hr1 : IA r1) (hr4 : IA r4) {md : Int → Int} (h4 : ¬ cW r4) (hm : ∀ i, 0 ≤ i → i < 4 → cel g r4 i = md i ∧ 0 ≤ md i ∧ md i ≤ 2) :
    ∀ (r : List CL) (c : CL) (i : Int) (g1 : GG), 0 ≤ i → i + r.length ≤ 3 → okC c → okS r → CR g1 (c :: r) → onlyC g g1 → (∀ g', clA g' 154 (enC md i c r) → onlyC g g' → K (.inl vU) (stt g')) → AW Γ l mX7_readWords (d + 1) b 123 [vR 153, vR r1, vI x2, vI x3, vR r4, vR (oid r.length), vI i, vU, vU] [] (stt g1) K
  | [], c, i, g1, i0, i1, hc, hr, hcr, hon, kk => by
    have ho := oid_cu (n := 0) (by decide)
    apply wpX7_readWords_123 hr1 hr4 (show CU (oid ([] : List CL).length) from ho.1)
    have kk2 := kk g1 hcr.1 hon
    exact ⟨fun _ => kk2, fun _ => ⟨fun _ => kk2, fun h => absurd (show RC 154 0 = 0 by decide +kernel) h⟩⟩
  | a :: r, c, i, g1, i0, i1, hc, hr, hcr, hon, kk => by
    simp only [List.length_cons] at i1
    have ho := oid_cu (n := r.length + 1) (by omega)
    have ho2 := oid_cu (n := r.length) (by omega)
    have hne : oid (r.length + 1) ≠ oid r.length := oid_ne (by omega)
    have hmi := hm i i0 (by omega)
    have ha := hr a List.mem_cons_self
    have hr' : okS r := fun x hx => hr x (List.mem_cons_of_mem _ hx)
    apply wpX7_readWords_123 hr1 hr4 (show CU (oid (a :: r).length) from ho.1)
    have er : RC (oid (a :: r).length) 0 = oid r.length := oid_around (by omega)
    rw [er, wr_id (x := i) (by omega) (by omega), cel_only hon h4, hmi.1, wr_id (x := md i) (by omega) (by omega)]
    have hnz : ¬ oid r.length = 0 := by
      unfold oid
      by_cases q : r.length = 0
      · rw [if_pos q]; decide
      · rw [if_neg q]; omega
    have kk' : ∀ g', clA g' 154 (enC md (i + 1) (if md i = 0 then a else layC a (trnC c (md i))) r) → onlyC g g' → K (.inl vU) (stt g') := kk
    have hc1 : clA g1 (oid (a :: r).length) c := hcr.1
    have ha1 : clA g1 (oid r.length) a := hcr.2.1
    refine ⟨fun h => absurd h (by omega), fun _ => ⟨fun h => absurd h hnz, fun _ => ⟨fun h2 => ⟨fun h0 => ?_, fun h0 => ⟨ho2.1, ?_⟩⟩, fun h2 => ⟨fun h0 => absurd h0 (by omega), fun h0 => ⟨ho2.1, ?_⟩⟩⟩⟩⟩
    · rw [if_pos h0] at kk'
      exact AW.weak (k_ends (x2 := x2) (x3 := x3) hr1 hr4 h4 hm r a (i + 1) g1 (by omega) (by omega) ha hr' hcr.2 hon kk') (by simp [leP])
    · rw [if_neg h0] at kk'
      have et : trnC c (md i) = c := if_neg h2
      rw [et] at kk'
      refine k_lay ho2.1 ho.1 hne ha1 hc1 ha fun g2 hl he => bV_in ?_
      exact AW.weak (k_ends (x2 := x2) (x3 := x3) hr1 hr4 h4 hm r _ (i + 1) g2 (by omega) (by omega) (okC_lay ha hc) hr' ⟨hl, CR.same hcr.2.2 fun n j hn => he _ _ (oid_ne (by omega))⟩ (hon.tr ho2.2 he) kk') (by simp [leP])
    · rw [if_neg h0] at kk'
      have et : trnC c (md i) = upV c 5 (1 - c 5) := if_pos (by omega)
      have e5 : g1 (oid (a :: r).length) 7 = c 5 := hc1 5 (by decide) (by decide)
      rw [et] at kk'
      rw [e5]
      have hcu : okC (upV c 5 (1 - c 5)) := by rw [← et]; exact okC_trn hc _
      have ha2 : clA (upd2 g1 (oid (a :: r).length) 7 (1 - c 5)) (oid r.length) a := fun f f0 f1 => by rw [upd2_ne (show oid r.length ≠ oid (a :: r).length from hne.symm), ha1 f f0 f1]
      refine k_lay ho2.1 ho.1 hne ha2 hc1.up ha fun g2 hl he => bV_in ?_
      refine AW.weak (k_ends (x2 := x2) (x3 := x3) hr1 hr4 h4 hm r _ (i + 1) g2 (by omega) (by omega) (okC_lay ha hcu) hr' ⟨hl, CR.same hcr.2.2 fun n j hn => ?_⟩ ((hon.tr ho.2 (fun x j hx => upd2_ne hx)).tr ho2.2 he) kk') (by simp [leP])
      rw [he _ _ (oid_ne (by omega)), upd2_ne (oid_ne (by simp only [List.length_cons]; omega))]
/-- so many words, by the stack of clauses -/
theorem k_readWords {r1 r4 x2 : Int} {n : Nat} {f : Int → Int × Int} {md : Int → Int} (hr1 : IA r1) (hr4 : IA r4) (h1 : ¬ cW r1) (h4 : ¬ cW r4) (hm : ∀ i, 0 ≤ i → i < 4 → cel g r4 i = md i ∧ 0 ≤ md i ∧ md i ≤ 2) (hn9 : n ≤ 12) (hw : okW f n) (hn : okN f n)
    (hc : ∀ k : Nat, k < n → cel g r1 (x2 + k) = 10 * (f k).1 + (f k).2) (kk : ∀ g', clA g' 154 (rdC f n md) → onlyC g g' → K (.inl vU) (stt g')) : Ct Γ l (d + 1) b yX7_readWords mX7_readWords [vR 153, vR r1, vI x2, vI n, vR r4] (stt g) K := by
  have hso := stk_ok hw hn
  apply wpX7_readWords hr1 hr4
  refine k_clear (oid_cu (n := 0) (by decide)).1 fun g1 hc1 he1 => bV_in ?_
  refine up_loop (P := fun k => ∀ g2, CR g2 (stk f k) → onlyC g g2 → AW Γ l mX7_readWords (d + 1) b 14 [vR 153, vR r1, vI x2, vI n, vR r4, vR (oid ((stk f k).length - 1)), vI k, vU, vU] [] (stt g2) K) (N := n) (fun g2 hcr hon => ?_) (fun k hk hi g2 hcr hon => ?_) 0 (Nat.zero_le _) g1 ⟨hc1, trivial⟩ (fun a j ha => he1 a j (fun e => ha (e ▸ (oid_cu (n := 0) (by decide)).2)))
  · obtain ⟨z1, z2⟩ := hso n (Nat.le_refl _)
    have zn := hn n (Nat.le_refl _)
    have kk2 : ∀ g', clA g' 154 (match stk f n with
      | [] => eC
      | c :: r => enC md 0 c r) → onlyC g g' → K (.inl vU) (stt g') := kk
    generalize stk f n = st at z1 z2 hcr kk2 ⊢
    match st, z1, z2, hcr, kk2 with
    | [], z1, z2, _, _ => simp at z2; omega
    | c :: r, z1, z2, hcr, kk2 =>
      simp only [List.length_cons] at z2
      have ho := oid_cu (n := r.length) (by omega)
      apply wpX7_readWords_14 hr1 hr4 (show CU (oid ((c :: r).length - 1)) from ho.1)
      refine ⟨fun _ => ?_, fun h => absurd (Int.le_refl _) h⟩
      exact k_ends (x2 := x2) (x3 := n) hr1 hr4 h4 hm r c 0 g2 (by decide) (by omega) (z1 c List.mem_cons_self) (fun x hx => z1 x (List.mem_cons_of_mem _ hx)) hcr hon kk2
  · obtain ⟨z1, z2⟩ := hso k (by omega)
    obtain ⟨y1, y2⟩ := hso (k + 1) hk
    have zn := hn k (by omega)
    have yn := hn (k + 1) hk
    have wk := hw k hk
    have ek := hc k hk
    have ed : dpf f (k + 1) = dpf f k + (if (f k).1 = 8 then 1 else if (f k).1 = 9 then -1 else 0) := rfl
    have hi2 : ∀ g2, CR g2 (stC (stk f k) (f k)) → onlyC g g2 → AW Γ l mX7_readWords (d + 1) b 14 [vR 153, vR r1, vI x2, vI n, vR r4, vR (oid ((stC (stk f k) (f k)).length - 1)), vI ((k + 1 : Nat) : Int), vU, vU] [] (stt g2) K := hi
    have ys : okS (stC (stk f k) (f k)) := y1
    have yl : ((stC (stk f k) (f k)).length : Int) = 1 + dpf f (k + 1) := y2
    generalize stk f k = st at z1 z2 hcr hi2 ys yl ⊢
    match st, z1, z2, hcr, hi2, ys, yl with
    | [], z1, z2, _, _, _, _ => simp at z2; omega
    | c :: r, z1, z2, hcr, hi2, ys, yl =>
      simp only [List.length_cons] at z2
      have ho := oid_cu (n := r.length) (by omega)
      have hc9 := z1 c List.mem_cons_self
      have hcl : clA g2 (oid r.length) c := hcr.1
      apply wpX7_readWords_14 hr1 hr4 (show CU (oid ((c :: r).length - 1)) from ho.1)
      have e1 : iDiv (10 * (f k).1 + (f k).2) 10 = (f k).1 := by
        rw [iDiv_nn (by omega) (by omega) (by decide) (by decide)]
        omega
      have e2 : iRem (10 * (f k).1 + (f k).2) 10 = (f k).2 := by
        rw [iRem_nn (by omega) (by omega) (by decide) (by decide)]
        omega
      rw [wr_id (x := (n : Int)) (by omega) (by omega), wr_id (x := (k : Int)) (by omega) (by omega), cel_only hon h1, ek, e1, e2, wr_id (x := (f k).1) (by omega) (by omega)]
      have eo : oid ((c :: r).length - 1) = oid r.length := rfl
      rw [eo]
      unfold stC at hi2 yl
      refine ⟨fun h => absurd h (by omega), fun _ => ⟨fun h8 => ⟨fun h9 => ?_, fun h9 => ⟨fun h0 => ?_, fun h0 => ?_⟩⟩, fun h8 => ⟨fun h0 => ?_, fun h0 => ?_⟩⟩⟩
      · simp only [if_neg h8, if_neg h9] at hi2
        refine k_take ho.1 hcl hc9 wk.1.1 (by omega) fun g3 ht he => bV_in ?_
        exact AW.weak (hi2 g3 ⟨ht, CR.same hcr.2 fun m j hm9 => he _ _ (oid_ne (by omega))⟩ (hon.tr ho.2 he)) (by simp [leP])
      · have h9 : (f k).1 = 9 := by omega
        simp only [if_neg h8, if_pos h9] at yl ed
        match r, z2, h0 with
        | [], z2, h0 => simp only [List.length_nil] at z2; omega
        | a :: r', z2, h0 =>
          simp only [List.length_cons] at z2
          rw [show RC (oid (a :: r').length) 0 = oid r'.length from oid_around (by omega)] at h0
          unfold oid at h0
          by_cases q : r'.length = 0
          · rw [if_pos q] at h0; exact absurd h0 (by decide)
          · rw [if_neg q] at h0; omega
      · have h9 : (f k).1 = 9 := by omega
        simp only [if_neg h8, if_pos h9] at yl hi2 ed
        match r, z1, z2, hcr, hi2, yl, ho, hcl with
        | [], z1, z2, _, _, yl, _, _ => simp only [List.length_nil] at z2; omega
        | a :: r', z1, z2, hcr, hi2, yl, ho, hcl =>
          simp only [List.length_cons] at z2
          have er : RC (oid (a :: r').length) 0 = oid r'.length := oid_around (by omega)
          have ho2 := oid_cu (n := r'.length) (by omega)
          have ha := z1 a (List.mem_cons_of_mem _ List.mem_cons_self)
          have ha1 : clA g2 (oid r'.length) a := hcr.2.1
          rw [er]
          refine ⟨ho2.1, k_lay ho2.1 ho.1 (oid_ne (by simp only [List.length_cons]; omega)) ha1 hcl ha fun g3 ht he => bV_in ?_⟩
          exact AW.weak (hi2 g3 ⟨ht, CR.same hcr.2.2 fun m j hm9 => he _ _ (oid_ne (by omega))⟩ (hon.tr ho2.2 he)) (by simp [leP])
      · have h8 : (f k).1 = 8 := by omega
        simp only [if_pos h8, List.length_cons] at yl
        rw [oid_inner (by omega)] at h0
        unfold oid at h0
        rw [if_neg (by omega)] at h0
        omega
      · have h8 : (f k).1 = 8 := by omega
        simp only [if_pos h8] at yl hi2
        simp only [List.length_cons] at yl
        have ho2 := oid_cu (n := r.length + 1) (by omega)
        rw [oid_inner (by omega)]
        refine ⟨ho2.1, k_clear ho2.1 fun g3 ht he => bV_in ?_⟩
        exact AW.weak (hi2 g3 ⟨ht, CR.same hcr fun m j hm9 => he _ _ (oid_ne (by simp only [List.length_cons] at hm9; omega))⟩ (hon.tr ho2.2 he)) (by simp [leP])
end RD
