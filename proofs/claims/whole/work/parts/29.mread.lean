/-! WORDS READ: the reference's side -/
def MC (g : GG) : List CL → Prop
  | [] => True
  | c :: r => (∀ f, 0 ≤ f → f < 6 → g 179 (6 * r.length + f) = c f) ∧ MC g r
def MS (g : GG) (st : List CL) : Prop := MC g st ∧ g 171 19 = (st.length : Int) - 1
def onlyQ (g g' : GG) : Prop := ∀ a j, a ≠ 179 → ¬ (a = 171 ∧ j = 19) → g' a j = g a j
theorem onlyQ.tr {g g1 g2 : GG} (h : onlyQ g g1) (h2 : onlyQ g1 g2) : onlyQ g g2 := fun a j ha hj => by rw [h2 a j ha hj, h a j ha hj]
theorem MC.same {g g' : GG} : ∀ {st : List CL} {n : Int}, MC g st → 6 * (st.length : Int) ≤ n → (∀ j, j < n → g' 179 j = g 179 j) → MC g' st
  | [], _, _, _, _ => trivial
  | c :: r, n, h, hn, e => by
    simp only [List.length_cons] at hn
    exact ⟨fun f f0 f1 => by rw [e _ (by omega), h.1 f f0 f1], MC.same (n := n) h.2 (by omega) e⟩
/-- the clause at a depth is rewritten by one number -/
theorem MC.up {g : GG} {c : CL} {r : List CL} {f v : Int} (h : MC g (c :: r)) (f0 : 0 ≤ f) (f1 : f < 6) : MC (upd2 g 179 (6 * r.length + f) v) (upV c f v :: r) := by
  refine ⟨fun f' a0 a1 => ?_, MC.same (n := 6 * (r.length : Int)) h.2 (Int.le_refl _) fun j hj => upd2_nj (by omega)⟩
  by_cases e : f' = f
  · rw [e, upd2_eq, upV_eq]
  · rw [upd2_nj (by omega), upV_ne e, h.1 f' a0 a1]
section MR
variable {Γ : Cfg} {l : Launch} {d b : Nat} {g : GG} {K : Ou → HP → Prop}
theorem m_begins {n : Nat} (hn : n ≤ 4) (kk : ∀ g', (∀ f, 0 ≤ f → f < 6 → g' 179 (6 * n + f) = eC f) → g' 171 19 = (n : Int) → onlyQ g g' → (∀ j, j < 6 * (n : Int) → g' 179 j = g 179 j) → K (.inl vU) (stt g')) : Ct Γ l d b yX12_begins mX12_begins [vR 171, vI n] (stt g) K := by
  apply wpX12_begins
  refine up_loop (P := fun k => ∀ g', (∀ f, 0 ≤ f → f < (k : Int) → g' 179 (6 * n + f) = eC f) → onlyQ g g' → (∀ j, j < 6 * (n : Int) → g' 179 j = g 179 j) → AW Γ l mX12_begins d b 2 [vR 171, vI n, vI k] [] (stt g') K) (N := 6) (fun g' h1 h2 h3 => ?_) (fun k hk hi g' h1 h2 h3 => ?_) 0 (Nat.zero_le _) g (fun f f0 f1 => absurd f1 (by omega)) (fun _ _ _ _ => rfl) (fun _ _ => rfl)
  · apply wpX12_begins_2
    rw [wr_id (x := ((6 : Nat) : Int)) (by decide) (by decide)]
    refine ⟨fun _ => kk _ (fun f f0 f1 => ?_) upd2_eq (fun a j ha hj => ?_) (fun j hj => ?_), fun q => absurd (show (6 : Int) ≤ ((6 : Nat) : Int) by decide) q⟩
    · rw [upd2_ne (by decide)]; exact h1 f f0 f1
    · by_cases e : a = 171
      · rw [upd2_nj (fun z => hj ⟨e, z⟩)]; exact h2 a j ha hj
      · rw [upd2_ne e]; exact h2 a j ha hj
    · rw [upd2_ne (by decide)]; exact h3 j hj
  · apply wpX12_begins_2
    rw [wr_id (x := (k : Int)) (by omega) (by omega), wr_id (x := 6 * (n : Int) + k) (by omega) (by omega)]
    have st : ∀ v, v = eC k → AW Γ l mX12_begins d b 2 [vR 171, vI n, vI ((k : Int) + 1)] [] (stt (upd2 g' 179 (6 * n + k) v)) K := fun v hv => hi _ (fun f f0 f1 => by
      by_cases e : f = k
      · rw [e, upd2_eq, hv]
      · rw [upd2_nj (by omega)]; exact h1 f f0 (by omega)) (fun a j ha hj => by rw [upd2_ne ha]; exact h2 a j ha hj) (fun j hj => by rw [upd2_nj (by omega)]; exact h3 j hj)
    refine ⟨fun q => absurd q (by omega), fun _ => ⟨fun q => ⟨by omega, st 0 ?_⟩, fun q => ⟨by omega, st 10 ?_⟩⟩⟩
    · unfold eC; rw [if_neg q]
    · unfold eC; rw [if_pos (by omega)]
theorem m_isLaid {c a : CL} {r : List CL} (hs : MS g (c :: a :: r)) (hl : r.length ≤ 3) (ha : okC a) (hc : okC c) (kk : ∀ g', MS g' (layC a c :: r) → onlyQ g g' → K (.inl vU) (stt g')) : Ct Γ l d b yX12_isLaid mX12_isLaid [vR 171] (stt g) K := by
  obtain ⟨⟨h1, h2, h3⟩, hd⟩ := hs
  simp only [List.length_cons] at hd h1
  have hd : g 171 19 = (r.length : Int) + 1 := by omega
  have o0 := ha.1
  have A0 : g 179 (6 * (r.length : Int)) = a 0 := by rw [← h2 0 (by decide) (by decide)]; exact congrArg _ (by omega)
  have A1 : g 179 (6 * (r.length : Int) + 1) = a 1 := h2 1 (by decide) (by decide)
  have A2 : g 179 (6 * (r.length : Int) + 2) = a 2 := h2 2 (by decide) (by decide)
  have A3 : g 179 (6 * (r.length : Int) + 3) = a 3 := h2 3 (by decide) (by decide)
  have A4 : g 179 (6 * (r.length : Int) + 4) = a 4 := h2 4 (by decide) (by decide)
  have A5 : g 179 (6 * (r.length : Int) + 5) = a 5 := h2 5 (by decide) (by decide)
  have C0 : g 179 (6 * (r.length : Int) + 6) = c 0 := by rw [← h1 0 (by decide) (by decide)]; exact congrArg _ (by omega)
  have C1 : g 179 (6 * (r.length : Int) + 7) = c 1 := by rw [← h1 1 (by decide) (by decide)]; exact congrArg _ (by omega)
  have C2 : g 179 (6 * (r.length : Int) + 8) = c 2 := by rw [← h1 2 (by decide) (by decide)]; exact congrArg _ (by omega)
  have C3 : g 179 (6 * (r.length : Int) + 9) = c 3 := by rw [← h1 3 (by decide) (by decide)]; exact congrArg _ (by omega)
  have C4 : g 179 (6 * (r.length : Int) + 10) = c 4 := by rw [← h1 4 (by decide) (by decide)]; exact congrArg _ (by omega)
  have C5 : g 179 (6 * (r.length : Int) + 11) = c 5 := by rw [← h1 5 (by decide) (by decide)]; exact congrArg _ (by omega)
  generalize hR : (r.length : Int) = R at *
  have R0 : 0 ≤ R ∧ R ≤ 3 := by omega
  have fin : ∀ s0, s0 = (if a 0 = 0 then c 0 else a 0) → AW Γ l mX12_isLaid d b 50 [vR 171, vI (6 * (R + 1)), vI (6 * (R + 1) - 6)] [vI s0, vI (6 * (R + 1) - 6 + 0), vR 179] (stt g) K := by
    intro s0 es
    apply wpX12_isLaid_50
    have t1 : ∀ i, 0 ≤ i → i ≤ 6 → wr (6 * (R + 1) - 6 + i) = 6 * R + i := fun i i0 i1 => by rw [wr_id (by omega) (by omega)]; omega
    have t2 : ∀ i, 0 ≤ i → i ≤ 6 → wr (6 * (R + 1) + i) = 6 * R + (6 + i) := fun i i0 i1 => by rw [wr_id (by omega) (by omega)]; omega
    rw [t1 0 (by decide) (by decide), t1 1 (by decide) (by decide), t1 2 (by decide) (by decide), t1 3 (by decide) (by decide), t1 4 (by decide) (by decide), t1 5 (by decide) (by decide), t2 1 (by decide) (by decide), t2 2 (by decide) (by decide), t2 3 (by decide) (by decide), t2 4 (by decide) (by decide), t2 5 (by decide) (by decide)]
    refine ⟨by omega, by omega, by omega, by omega, fun g1 e1 => ⟨by omega, by omega, by omega, fun g2 e2 => ⟨by omega, by omega, by omega, fun g3 e3 => ⟨by omega, by omega, by omega, fun g4 e4 => ⟨by omega, by omega, by omega, fun g5 e5 => ?_⟩⟩⟩⟩⟩
    rw [upd2_nj (by omega), upd2_nj (by omega), A1, show 6 * R + (6 + 1) = 6 * R + 7 by omega, C1] at e1
    have f2 : g1 179 (6 * R + 2) = a 2 := by rw [e1, upd2_nj (by omega), upd2_nj (by omega), A2]
    have f2' : g1 179 (6 * R + (6 + 2)) = c 2 := by rw [e1, upd2_nj (by omega), upd2_nj (by omega), ← C2]; exact congrArg _ (by omega)
    rw [f2, f2'] at e2
    have f4 : g2 179 (6 * R + 4) = a 4 := by rw [e2, upd2_nj (by omega), e1, upd2_nj (by omega), upd2_nj (by omega), A4]
    have f4' : g2 179 (6 * R + (6 + 4)) = c 4 := by rw [e2, upd2_nj (by omega), e1, upd2_nj (by omega), upd2_nj (by omega), ← C4]; exact congrArg _ (by omega)
    rw [f4, f4'] at e3
    have f3 : g3 179 (6 * R + 3) = a 3 := by rw [e3, upd2_nj (by omega), e2, upd2_nj (by omega), e1, upd2_nj (by omega), upd2_nj (by omega), A3]
    have f3' : g3 179 (6 * R + (6 + 3)) = c 3 := by rw [e3, upd2_nj (by omega), e2, upd2_nj (by omega), e1, upd2_nj (by omega), upd2_nj (by omega), ← C3]; exact congrArg _ (by omega)
    rw [f3, f3'] at e4
    have f5 : g4 179 (6 * R + 5) = a 5 := by rw [e4, upd2_nj (by omega), e3, upd2_nj (by omega), e2, upd2_nj (by omega), e1, upd2_nj (by omega), upd2_nj (by omega), A5]
    have f5' : g4 179 (6 * R + (6 + 5)) = c 5 := by rw [e4, upd2_nj (by omega), e3, upd2_nj (by omega), e2, upd2_nj (by omega), e1, upd2_nj (by omega), upd2_nj (by omega), ← C5]; exact congrArg _ (by omega)
    rw [f5, f5'] at e5
    have ed : g5 171 19 = R + 1 := by rw [e5, upd2_ne (by decide), e4, upd2_ne (by decide), e3, upd2_ne (by decide), e2, upd2_ne (by decide), e1, upd2_ne (by decide), upd2_ne (by decide), hd]
    rw [ed]
    refine kk _ ⟨⟨fun f f0 f1 => ?_, MC.same (n := 6 * R) h3 (by omega) fun j hj => ?_⟩, ?_⟩ (fun x j hx hj => ?_)
    · rw [hR, upd2_ne (by decide)]
      have hf : f = 0 ∨ f = 1 ∨ f = 2 ∨ f = 3 ∨ f = 4 ∨ f = 5 := by omega
      rcases hf with rfl | rfl | rfl | rfl | rfl | rfl
      · rw [e5, upd2_nj (by omega), e4, upd2_nj (by omega), e3, upd2_nj (by omega), e2, upd2_nj (by omega), e1, upd2_nj (by omega), upd2_eq]; exact es
      · rw [e5, upd2_nj (by omega), e4, upd2_nj (by omega), e3, upd2_nj (by omega), e2, upd2_nj (by omega), e1, upd2_eq]; rfl
      · rw [e5, upd2_nj (by omega), e4, upd2_nj (by omega), e3, upd2_nj (by omega), e2, upd2_eq]; rfl
      · rw [e5, upd2_nj (by omega), e4, upd2_eq]; rfl
      · rw [e5, upd2_nj (by omega), e4, upd2_nj (by omega), e3, upd2_eq]; rfl
      · rw [e5, upd2_eq]; rfl
    · rw [upd2_ne (by decide), e5, upd2_nj (by omega), e4, upd2_nj (by omega), e3, upd2_nj (by omega), e2, upd2_nj (by omega), e1, upd2_nj (by omega), upd2_nj (by omega)]
    · rw [upd2_eq]; simp only [List.length_cons]; omega
    · by_cases e : x = 171
      · rw [upd2_nj (fun z => hj ⟨e, z⟩), e5, upd2_ne hx, e4, upd2_ne hx, e3, upd2_ne hx, e2, upd2_ne hx, e1, upd2_ne hx, upd2_ne hx]
      · rw [upd2_ne e, e5, upd2_ne hx, e4, upd2_ne hx, e3, upd2_ne hx, e2, upd2_ne hx, e1, upd2_ne hx, upd2_ne hx]
  apply wpX12_isLaid
  rw [hd, wr_id (x := 6 * (R + 1) - 6 + 0) (by omega) (by omega), wr_id (x := 6 * (R + 1) + 0) (by omega) (by omega), show 6 * (R + 1) - 6 + 0 = 6 * R by omega, A0, show 6 * (R + 1) + 0 = 6 * R + 6 by omega, C0, wr_id (x := a 0) (by omega) (by omega)]
  have z : 6 * (R + 1) - 6 + 0 = 6 * R := by omega
  rw [z] at fin
  refine ⟨by omega, fun q => ⟨by omega, fin _ (by rw [if_neg q])⟩, fun q => ⟨by omega, fin _ (by rw [if_pos (by omega)])⟩⟩
theorem m_comes {c : CL} {r : List CL} {k n : Int} (hs : MS g (c :: r)) (ho : okS (c :: r)) (hl : r.length ≤ 3) (k0 : 0 ≤ k) (k1 : k ≤ 9) (h9 : k = 9 → r ≠ []) (kk : ∀ g', MS g' (stC (c :: r) (k, n)) → onlyQ g g' → K (.inl vU) (stt g')) : Ct Γ l (d + 1) b yX12_comes mX12_comes [vR 171, vI k, vI n] (stt g) K := by
  obtain ⟨hc, hd⟩ := id hs
  simp only [List.length_cons] at hd
  have hd : g 171 19 = (r.length : Int) := by omega
  have oc := ho c List.mem_cons_self
  obtain ⟨o0, o1, o2, o3, o4, o5⟩ := id oc
  have c0 : g 179 (6 * (r.length : Int)) = c 0 := by rw [← hc.1 0 (by decide) (by decide)]; exact congrArg _ (by omega)
  have c1 : g 179 (6 * (r.length : Int) + 1) = c 1 := hc.1 1 (by decide) (by decide)
  have c2 : g 179 (6 * (r.length : Int) + 2) = c 2 := hc.1 2 (by decide) (by decide)
  have c3 : g 179 (6 * (r.length : Int) + 3) = c 3 := hc.1 3 (by decide) (by decide)
  have c4 : g 179 (6 * (r.length : Int) + 4) = c 4 := hc.1 4 (by decide) (by decide)
  have c5 : g 179 (6 * (r.length : Int) + 5) = c 5 := hc.1 5 (by decide) (by decide)
  have t1 : ∀ i, 0 ≤ i → i ≤ 6 → wr (6 * (r.length : Int) + i) = 6 * (r.length : Int) + i := fun i i0 i1 => wr_id (by omega) (by omega)
  apply wpX12_comes
  rw [hd, t1 0 (by decide) (by decide), t1 1 (by decide) (by decide), t1 2 (by decide) (by decide), t1 3 (by decide) (by decide), t1 4 (by decide) (by decide), t1 5 (by decide) (by decide), show 6 * (r.length : Int) + 0 = 6 * (r.length : Int) by omega, c0, c1, c2, c3, c4, c5, wr_id (x := k) (by omega) (by omega), wr_id (x := c 0) (by omega) (by omega)]
  have put : ∀ f v : Int, 0 ≤ f → f < 6 → stC (c :: r) (k, n) = upV c f v :: r → K (.inl vU) (stt (upd2 g 179 (6 * r.length + f) v)) := by
    intro f v f0 f1 e
    refine kk _ ?_ (fun a j ha _ => upd2_ne ha)
    rw [e]
    exact ⟨hc.up f0 f1, by rw [upd2_ne (by decide), hd]; simp only [List.length_cons]; omega⟩
  have e8 : k ≠ 8 → k ≠ 9 → stC (c :: r) (k, n) = takC c k n :: r := fun q8 q9 => by
    unfold stC
    simp only [if_neg q8, if_neg q9]
  refine ⟨fun q => ⟨by omega, by omega, fun g1 e1 => ?_⟩, fun q => ⟨by omega, by omega, fun g1 e1 => ?_⟩, fun q => ⟨by omega, by omega, fun g1 e1 => ?_⟩, fun q => ⟨by omega, by omega, fun g1 e1 => ?_⟩, fun q => ⟨by omega, by omega, fun g1 e1 => ?_⟩, fun q => ?_, fun q => ?_, fun q => ⟨by omega, fun q2 => ⟨by omega, by omega, fun g1 e1 => ?_⟩, fun q2 => ⟨by omega, fun g1 e1 => ?_⟩⟩⟩
  · rw [e1]
    refine put 1 _ (by decide) (by decide) ?_
    rw [e8 (by omega) (by omega)]
    unfold takC
    rw [if_neg (by omega), if_pos (by omega)]
  · rw [e1]
    refine put 2 _ (by decide) (by decide) ?_
    rw [e8 (by omega) (by omega)]
    unfold takC
    rw [if_neg (by omega), if_neg (by omega), if_pos (by omega)]
  · rw [e1, iXor_01 o5.1 o5.2 (by decide) (by decide)]
    refine put 5 _ (by decide) (by decide) ?_
    rw [e8 (by omega) (by omega)]
    unfold takC
    rw [if_neg (by omega), if_neg (by omega), if_neg (by omega), if_pos (by omega)]
    congr 1
    congr 1
    omega
  · rw [e1]
    refine put 3 _ (by decide) (by decide) ?_
    rw [e8 (by omega) (by omega)]
    unfold takC
    rw [if_neg (by omega), if_neg (by omega), if_neg (by omega), if_neg (by omega), if_pos (by omega)]
  · rw [e1]
    refine put 4 _ (by decide) (by decide) ?_
    rw [e8 (by omega) (by omega)]
    unfold takC
    rw [if_neg (by omega), if_neg (by omega), if_neg (by omega), if_neg (by omega), if_neg (by omega)]
  · rw [show (r.length : Int) + 1 = ((r.length + 1 : Nat) : Int) by omega]
    refine m_begins (by omega) fun g1 h1 h2 h3 h4 => bV_in (kk g1 ?_ h3)
    unfold stC
    simp only [if_pos q]
    refine ⟨⟨fun f f0 f1 => h1 f f0 f1, MC.same (n := 6 * ((c :: r).length : Int)) hc (Int.le_refl _) fun j hj => h4 j (by simpa using hj)⟩, ?_⟩
    rw [h2]
    simp only [List.length_cons]
    omega
  · have hr := h9 q
    match r, hr, hs, ho, hl, kk with
    | a :: r', _, hs, ho, hl, kk =>
      simp only [List.length_cons] at hl
      refine m_isLaid hs (by omega) (ho a (List.mem_cons_of_mem _ List.mem_cons_self)) oc fun g1 h1 h2 => bV_in (kk g1 ?_ h2)
      unfold stC
      simp only [if_neg (show ¬ k = 8 by omega), if_pos q]
      exact h1
  · rw [e1]
    have := put 0 (c 0) (by decide) (by decide) (by
      rw [e8 (by omega) (by omega)]
      unfold takC
      rw [if_pos (by omega), if_neg q2])
    rw [show 6 * (r.length : Int) + 0 = 6 * (r.length : Int) by omega] at this
    exact this
  · rw [e1]
    have := put 0 (k + 1) (by decide) (by decide) (by
      rw [e8 (by omega) (by omega)]
      unfold takC
      rw [if_pos (by omega), if_pos (by omega)])
    rw [show 6 * (r.length : Int) + 0 = 6 * (r.length : Int) by omega] at this
    exact this
theorem m_ends {md : Int → Int} (hm : ∀ i, 0 ≤ i → i < 4 → g 172 (8 + i) = md i ∧ 0 ≤ md i ∧ md i ≤ 2) :
    ∀ (r : List CL) (c : CL) (i : Int) (g1 : GG), 0 ≤ i → i + r.length ≤ 3 → okC c → okS r → MS g1 (c :: r) → onlyQ g g1 → (∀ g', MS g' [enC md i c r] → onlyQ g g' → K (.inl vU) (stt g')) → AW Γ l mX12_endsClauses (d + 1) b 2 [vR 171, vI i, vU] [] (stt g1) K
  | [], c, i, g1, i0, i1, hc, hr, hs, hon, kk => by
    apply wpX12_endsClauses_2
    rw [hs.2]
    exact ⟨fun _ => kk g1 hs hon, fun q => absurd (show wr (((1 : Nat) : Int) - 1) ≤ 0 by decide +kernel) q⟩
  | a :: r, c, i, g1, i0, i1, hc, hr, hs, hon, kk => by
    simp only [List.length_cons] at i1
    have hmi := hm i i0 (by omega)
    have ha := hr a List.mem_cons_self
    have hr' : okS r := fun x hx => hr x (List.mem_cons_of_mem _ hx)
    have hd : g1 171 19 = (r.length : Int) + 1 := by rw [hs.2]; simp only [List.length_cons]; omega
    have kk' : ∀ g', MS g' [enC md (i + 1) (if md i = 0 then a else layC a (trnC c (md i))) r] → onlyQ g g' → K (.inl vU) (stt g') := kk
    have em : g1 172 (8 + i) = md i := by rw [hon _ _ (by decide) (by omega), hmi.1]
    have c5 : g1 179 (6 * ((r.length : Int) + 1) + 5) = c 5 := by
      rw [← hs.1.1 5 (by decide) (by decide)]
      exact congrArg _ (by simp only [List.length_cons]; omega)
    have o5 := hc.2.2.2.2.2
    apply wpX12_endsClauses_2
    rw [hd, wr_id (x := (r.length : Int) + 1) (by omega) (by omega), wr_id (x := 8 + i) (by omega) (by omega), em, wr_id (x := md i) (by omega) (by omega), wr_id (x := 6 * ((r.length : Int) + 1) + 5) (by omega) (by omega), c5, iXor_01 o5.1 o5.2 (by decide) (by decide)]
    refine ⟨fun q => absurd q (by omega), fun _ => ⟨by omega, fun h2 => ⟨fun h0 => ?_, fun h0 => ?_⟩, fun h2 => ⟨by omega, by omega, fun g2 e2 => ⟨fun h0 => ?_, fun h0 => absurd h0 (by omega)⟩⟩⟩⟩
    · rw [if_neg h0] at kk'
      have et : trnC c (md i) = c := if_neg h2
      rw [et] at kk'
      refine m_isLaid hs (by omega) ha hc fun g2 hs2 hq => bV_in ?_
      exact AW.weak (m_ends hm r _ (i + 1) g2 (by omega) (by omega) (okC_lay ha hc) hr' hs2 (hon.tr hq) kk') (by simp [leP])
    · rw [if_pos (by omega)] at kk'
      refine AW.weak (m_ends hm r a (i + 1) _ (by omega) (by omega) ha hr' ⟨MC.same (n := 6 * ((a :: r).length : Int)) hs.1.2 (Int.le_refl _) fun j _ => upd2_ne (by decide), ?_⟩ (hon.tr fun x j hx hj => ?_) kk') (by simp [leP])
      · rw [upd2_eq]; simp only [List.length_cons]; omega
      · by_cases e : x = 171
        · exact upd2_nj (fun z => hj ⟨e, z⟩)
        · exact upd2_ne e
    · rw [if_neg h0] at kk'
      have et : trnC c (md i) = upV c 5 (1 - c 5) := if_pos (by omega)
      rw [et] at kk'
      have hcu : okC (upV c 5 (1 - c 5)) := by rw [← et]; exact okC_trn hc _
      have e1 : (if c 5 = 1 then (0 : Int) else 1) = 1 - c 5 := by omega
      rw [e1] at e2
      have hs2 : MS g2 (upV c 5 (1 - c 5) :: a :: r) := by
        have h5 := MC.up (f := 5) (v := 1 - c 5) hs.1 (by decide) (by decide)
        rw [show 6 * ((a :: r).length : Int) + 5 = 6 * ((r.length : Int) + 1) + 5 by simp only [List.length_cons]; omega, ← e2] at h5
        exact ⟨h5, by rw [e2, upd2_ne (by decide), hs.2]; rfl⟩
      refine m_isLaid hs2 (by omega) ha hcu fun g3 hs3 hq => bV_in ?_
      exact AW.weak (m_ends hm r _ (i + 1) g3 (by omega) (by omega) (okC_lay ha hcu) hr' hs3 ((hon.tr fun x j hx hj => by rw [e2, upd2_ne hx]).tr hq) kk') (by simp [leP])
end MR
