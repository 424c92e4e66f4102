/-! READINGS AND THEIR WEIGHT: the reference's side -/
def rW (a j : Int) : Prop := a = 179 ∨ a = 181 ∨ (a = 171 ∧ (j = 19 ∨ j = 20 ∨ j = 21))
def onlyR (g g' : GG) : Prop := ∀ a j, ¬ rW a j → g' a j = g a j
theorem onlyR.rf {g : GG} : onlyR g g := fun _ _ _ => rfl
theorem onlyR.tr {g g1 g2 : GG} (h : onlyR g g1) (h2 : onlyR g1 g2) : onlyR g g2 := fun a j hs => by rw [h2 a j hs, h a j hs]
theorem onlyR.v {g g' : GG} (h : onlyR g g') : g' 172 = g 172 := funext fun j => h _ _ (by unfold rW; omega)
/-- what the reference has read -/
def RS (g : GG) (p n : Int) (c : CL) : Prop := (∀ f, 0 ≤ f → f < 6 → g 179 f = c f) ∧ g 171 20 = p ∧ g 171 21 = n
theorem ofP_at {g : GG} {V : VV} (hv : g 172 = V) {p w : Int} (h0 : 0 ≤ 12 + 29 * p + w) (h1 : 12 + 29 * p + w < 2184) : ofP g p w = V (12 + 29 * p + w) ∧ okP p w := by
  unfold ofP okP
  rw [hv, wr_id (by omega) (by omega)]
  exact ⟨rfl, h0, h1⟩
section MW
variable {Γ : Cfg} {l : Launch} {d b : Nat} {g : GG} {K : Ou → HP → Prop} {V : VV} {p : Int}
theorem m_reads {n : Nat} {pl : Int → Int} {f : Int → Int × Int} (hv : g 172 = V) (hV : WF V) (p0 : 0 ≤ p) (p1 : p < 6) (hn9 : n ≤ 12) (hp : ∀ k : Nat, k < n → (0 ≤ pl k ∧ pl k < 12) ∧ g 180 k = pl k ∧ f k = zW V p (pl k)) (hn : okN f n)
    (kk : ∀ g', RS g' p n (rdC f n (fun i => V (8 + i))) → onlyR g g' → K (.inl vU) (stt g')) : Ct Γ l (d + 3) b yX12_reads mX12_reads [vR 171, vI p, vI n] (stt g) K := by
  have hw : okW f n := fun k hk => by
    have h1 := hp k hk
    rw [h1.2.2]
    exact hV.kn p0 p1 h1.1.1 h1.1.2
  have hso := stk_ok hw hn
  apply wpX12_reads
  refine m_begins (n := 0) (by decide) fun g1 h1 h2 h3 h4 => bV_in ?_
  have z1 : ∀ a j, a ≠ 179 → ¬ (a = 171 ∧ (j = 19 ∨ j = 20 ∨ j = 21)) → g1 a j = g a j := fun a j ha hj => by
    rw [h3 a j ha (by omega)]
    by_cases e : a = 171
    · rw [upd2_nj (by omega), upd2_nj (by omega)]
    · rw [upd2_ne e, upd2_ne e]
  have z2 : g1 171 20 = p := by rw [h3 _ _ (by decide) (by omega), upd2_nj (by decide), upd2_eq]
  have z3 : g1 171 21 = n := by rw [h3 _ _ (by decide) (by omega), upd2_eq]
  refine up_loop (P := fun k => ∀ g2, MS g2 (stk f k) → onlyQ g1 g2 → AW Γ l mX12_reads (d + 3) b 17 [vR 171, vI p, vI n, vI k] [] (stt g2) K) (N := n) (fun g2 hs hq => ?_) (fun k hk hi g2 hs hq => ?_) 0 (Nat.zero_le _) g1 ⟨⟨fun f f0 f1 => ?_, trivial⟩, h2⟩ (fun _ _ _ _ => rfl)
  · obtain ⟨y1, y2⟩ := hso n (Nat.le_refl _)
    have zn := hn n (Nat.le_refl _)
    have kk2 : ∀ g', RS g' p n (match stk f n with
      | [] => eC
      | c :: r => enC (fun i => V (8 + i)) 0 c r) → onlyR g g' → K (.inl vU) (stt g') := kk
    apply wpX12_reads_17
    refine ⟨fun _ => ?_, fun q => absurd (Int.le_refl _) q⟩
    apply wpX12_endsClauses
    generalize stk f n = st at y1 y2 hs kk2
    match st, y1, y2, hs, kk2 with
    | [], _, y2, _, _ => simp at y2; omega
    | c :: r, y1, y2, hs, kk2 =>
      simp only [List.length_cons] at y2
      refine m_ends (md := fun i => V (8 + i)) (g := g2) (fun i i0 i1 => ⟨?_, hV.2.1 i i0 i1⟩) r c 0 g2 (by decide) (by omega) (y1 c List.mem_cons_self) (fun x hx => y1 x (List.mem_cons_of_mem _ hx)) hs (fun _ _ _ _ => rfl) fun g3 hs3 hq3 => bV_in (kk2 g3 ⟨fun f f0 f1 => ?_, ?_, ?_⟩ fun a j hr => ?_)
      · rw [hq _ _ (by decide) (by omega), z1 _ _ (by decide) (by omega), hv]
      · have := hs3.1.1 f f0 f1
        show g3 179 f = enC (fun i => V (8 + i)) 0 c r f
        rw [← this]
        exact congrArg _ (by simp)
      · rw [hq3 _ _ (by decide) (by omega), hq _ _ (by decide) (by omega), z2]
      · rw [hq3 _ _ (by decide) (by omega), hq _ _ (by decide) (by omega), z3]
      · have r1 : a ≠ 179 := fun e => hr (Or.inl e)
        have r2 : ¬ (a = 171 ∧ (j = 19 ∨ j = 20 ∨ j = 21)) := fun e => hr (Or.inr (Or.inr e))
        rw [hq3 _ _ r1 (by omega), hq _ _ r1 (by omega), z1 _ _ r1 r2]
  · obtain ⟨y1, y2⟩ := hso k (by omega)
    have zn := hn k (by omega)
    have zn1 := hn (k + 1) (by omega)
    have ed : dpf f (k + 1) = dpf f k + (if (f k).1 = 8 then 1 else if (f k).1 = 9 then -1 else 0) := rfl
    obtain ⟨hp1, hp2, hp3⟩ := hp k hk
    have wk := hw k hk
    have ev : g2 172 = V := by
      rw [← hv]
      funext j
      rw [hq _ _ (by decide) (by omega), z1 _ _ (by decide) (by omega)]
    have e180 : g2 180 k = pl k := by rw [hq _ _ (by decide) (by omega), z1 _ _ (by decide) (by omega), hp2]
    have e1 := ofP_at ev (p := p) (w := 5 + 2 * pl k) (by omega) (by omega)
    have e2 := ofP_at ev (p := p) (w := 5 + 2 * pl k + 1) (by omega) (by omega)
    have f1 : V (12 + 29 * p + (5 + 2 * pl k)) = (f k).1 := by rw [hp3]; rfl
    have f2 : V (12 + 29 * p + (5 + 2 * pl k + 1)) = (f k).2 := by rw [hp3]; rfl
    have hi2 : ∀ g2, MS g2 (stC (stk f k) (f k)) → onlyQ g1 g2 → AW Γ l mX12_reads (d + 3) b 17 [vR 171, vI p, vI n, vI ((k + 1 : Nat) : Int)] [] (stt g2) K := hi
    apply wpX12_reads_17
    rw [wr_id (x := (k : Int)) (by omega) (by omega), wr_id (x := (n : Int)) (by omega) (by omega), e180, e1.1, e2.1, f1, f2]
    refine ⟨fun q => absurd q (by omega), fun _ => ⟨by omega, e1.2, by omega, e2.2, ?_⟩⟩
    generalize stk f k = st at y1 y2 hs hi2
    match st, y1, y2, hs, hi2 with
    | [], _, y2, _, _ => simp at y2; omega
    | c :: r, y1, y2, hs, hi2 =>
      simp only [List.length_cons] at y2
      refine m_comes hs y1 (by omega) wk.1.1 wk.1.2 (fun q9 e => ?_) fun g3 h3 hq3 => bV_in (hi2 g3 h3 (hq.tr hq3))
      rw [e] at y2
      rw [if_neg (by omega), if_pos q9] at ed
      simp only [List.length_nil] at y2
      omega
  · rw [← h1 f f0 f1]
    exact congrArg _ (by simp)
theorem m_inOrder (kk : ∀ g', (∀ k, 0 ≤ k → k < 12 → g' 180 k = k) → (∀ a j, a ≠ 180 → g' a j = g a j) → K (.inl vU) (stt g')) : Ct Γ l d b yX12_inOrder mX12_inOrder [vR 171] (stt g) K := by
  apply wpX12_inOrder
  refine up_loop (P := fun n => ∀ g', (∀ k, 0 ≤ k → k < (n : Int) → g' 180 k = k) → (∀ a j, a ≠ 180 → g' a j = g a j) → AW Γ l mX12_inOrder d b 2 [vR 171, vI n] [] (stt g') K) (N := 12) (fun g' h1 h2 => ?_) (fun n hn hi g' h1 h2 => ?_) 0 (Nat.zero_le _) g (fun k k0 k1 => absurd k1 (by omega)) (fun _ _ _ => rfl)
  · apply wpX12_inOrder_2
    exact ⟨fun _ => kk g' h1 h2, fun q => absurd (show (12 : Int) ≤ wr ((12 : Nat) : Int) by decide +kernel) q⟩
  · apply wpX12_inOrder_2
    rw [wr_id (x := (n : Int)) (by omega) (by omega)]
    refine ⟨fun q => absurd q (by omega), fun _ => ⟨by omega, hi _ (fun k k0 k1 => ?_) (fun a j ha => by rw [upd2_ne ha, h2 a j ha])⟩⟩
    by_cases e : k = n
    · rw [e, upd2_eq]
    · rw [upd2_nj e, h1 k k0 (by omega)]
/-- in order: a person's first words -/
theorem m_readsO {n : Int} (hv : g 172 = V) (hV : WF V) (p0 : 0 ≤ p) (p1 : p < 6) (n0 : 0 ≤ n) (n1 : n ≤ zL V p) (ho : ∀ k, 0 ≤ k → k < 12 → g 180 k = k)
    (kk : ∀ g', RS g' p n (rdV V p n) → onlyR g g' → K (.inl vU) (stt g')) : Ct Γ l (d + 3) b yX12_reads mX12_reads [vR 171, vI p, vI n] (stt g) K := by
  have hp := hV.pn p0 p1
  obtain ⟨m, rfl⟩ : ∃ m : Nat, n = m := ⟨n.toNat, by omega⟩
  refine m_reads (pl := fun k => k) (f := zW V p) hv hV p0 p1 (by omega) (fun k hk => ⟨⟨by omega, by omega⟩, ho k (by omega) (by omega), rfl⟩) (hV.okN p0 p1 n1) fun g' h1 h2 => kk g' ?_ h2
  unfold rdV
  rw [Int.toNat_natCast]
  exact h1
theorem m_baseOf {n : Int} {c : CL} (h : RS g p n c) (hc : okC c) (h0 : c 0 ≠ 0) (kk : K (.inl (vI (baC c))) (stt g)) : Ct Γ l (d + 1) b yX12_baseOf mX12_baseOf [vR 171] (stt g) K := by
  have c0 : g 179 0 = c 0 := h.1 0 (by decide) (by decide)
  have c1 : g 179 1 = c 1 := h.1 1 (by decide) (by decide)
  have c2 : g 179 2 = c 2 := h.1 2 (by decide) (by decide)
  have c3 : g 179 3 = c 3 := h.1 3 (by decide) (by decide)
  have c4 : g 179 4 = c 4 := h.1 4 (by decide) (by decide)
  have c5 : g 179 5 = c 5 := h.1 5 (by decide) (by decide)
  obtain ⟨o0, o1, o2, o3, o4, o5⟩ := id hc
  have b2 := iBC_k o2.1 o2.2
  have b4 := iBC_k o4.1 o4.2
  apply wpX12_baseOf
  rw [c0, c1, c2, c3, c4, c5, wr_id (x := c 0) (by omega) (by omega), wr_id (x := c 5) (by omega) (by omega), iMax_id (x := 0) (by omega) (by omega) (by omega) (by omega), iMax_id (x := 0) (by omega) (by omega) (by omega) (by omega), iMax_id (x := 0) (by omega) (by omega) (by omega) (by omega)]
  unfold baC at kk
  refine ⟨fun h1 => ⟨fun h2 => ?_, fun h2 => ?_⟩, fun h1 => ?_⟩
  · have hw : whC c = (if 0 < 9 - 2 * iBC (c 2) then 9 - 2 * iBC (c 2) else 0) := by
      unfold whC
      rw [if_neg h1, if_neg h2, if_pos (by omega)]
    rw [hw] at kk
    refine ⟨fun h5 => ?_, fun h5 => ?_⟩
    · rw [if_neg h5] at kk; exact kk
    · rw [if_pos (show c 5 = 1 by omega)] at kk
      rw [iDiv_nn (by omega) (by omega) (by decide) (by decide)]; exact kk
  · have hw : whC c = (if 0 < 12 - c 3 then 12 - c 3 else 0) := by
      unfold whC
      rw [if_neg h1, if_pos (by omega)]
      omega
    rw [hw] at kk
    refine ⟨fun h5 => ?_, fun h5 => ?_⟩
    · rw [if_neg h5] at kk; exact kk
    · rw [if_pos (show c 5 = 1 by omega)] at kk
      rw [iDiv_nn (by omega) (by omega) (by decide) (by decide)]; exact kk
  · have hw : whC c = (if 0 < c 1 + 2 * iBC (c 4) then c 1 + 2 * iBC (c 4) else 0) := by
      unfold whC
      rw [if_pos (by omega)]
      omega
    rw [hw] at kk
    refine ⟨fun h5 => ?_, fun h5 => ?_⟩
    · rw [if_neg h5] at kk; exact kk
    · rw [if_pos (show c 5 = 1 by omega)] at kk
      rw [iDiv_nn (by omega) (by omega) (by decide) (by decide)]; exact kk
def whB (V : VV) (p n : Int) : Int := if n = zL V p then 1 else 0
theorem m_factOf {n : Int} {c : CL} {k a : Int} (h : RS g p n c) (hv : g 172 = V) (hV : WF V) (hc : okC c) (p0 : 0 ≤ p) (p1 : p < 6) (n0 : 0 ≤ n) (n1 : n ≤ 12) (k0 : 0 ≤ k) (k1 : k ≤ 10) (kk : K (.inl (vI (if k ≤ 9 then fcS p c n (whB V p n) k else a))) (stt g)) : Ct Γ l (d + 2) b yX12_factOf mX12_factOf [vR 171, vI k, vI a] (stt g) K := by
  have c0 : g 179 0 = c 0 := h.1 0 (by decide) (by decide)
  have c1 : g 179 1 = c 1 := h.1 1 (by decide) (by decide)
  have c2 : g 179 2 = c 2 := h.1 2 (by decide) (by decide)
  have c3 : g 179 3 = c 3 := h.1 3 (by decide) (by decide)
  have c4 : g 179 4 = c 4 := h.1 4 (by decide) (by decide)
  have c5 : g 179 5 = c 5 := h.1 5 (by decide) (by decide)
  have o0 := hc.1
  have hp := hV.pn p0 p1
  have e0 := ofP_at hv (p := p) (w := 0) (by omega) (by omega)
  have e1 : V (12 + 29 * p + 0) = zL V p := rfl
  apply wpX12_factOf
  rw [h.2.1, h.2.2, c0, c1, c2, c3, c4, c5, e0.1, e1, wr_id (x := k) (by omega) (by omega), wr_id (x := c 0) (by omega) (by omega), wr_id (x := n) (by omega) (by omega), wr_id (x := zL V p) (by omega) (by omega)]
  have hk : ∀ i : Int, k = i → i ≤ 9 → K (.inl (vI (fcS p c n (whB V p n) i))) (stt g) := fun i e hi => by
    rw [if_pos (by omega), e] at kk
    exact kk
  refine ⟨fun q => hk 0 q (by decide), fun q => hk 1 q (by decide), fun q => hk 2 q (by decide), fun q => hk 3 q (by decide), fun q => hk 4 q (by decide), fun q => hk 5 q (by decide), fun q => hk 6 q (by decide), fun q => ⟨e0.2, fun q2 => ?_, fun q2 => ?_⟩, fun q => hk 8 q (by decide), fun q => ⟨fun q2 => ?_, fun q2 => ?_⟩, fun q => ?_⟩
  · have := hk 7 q (by decide)
    have e : fcS p c n (whB V p n) 7 = 0 := show whB V p n = 0 from if_neg q2
    rw [e] at this; exact this
  · have := hk 7 q (by decide)
    have e : fcS p c n (whB V p n) 7 = 1 := show whB V p n = 1 from if_pos (by omega)
    rw [e] at this; exact this
  · have := hk 9 q (by decide)
    have e : fcS p c n (whB V p n) 9 = 0 := show (if c 0 = 0 then (1 : Int) else 0) = 0 from if_neg q2
    rw [e] at this; exact this
  · have := hk 9 q (by decide)
    have e : fcS p c n (whB V p n) 9 = 1 := show (if c 0 = 0 then (1 : Int) else 0) = 1 from if_pos (by omega)
    rw [e] at this; exact this
  · rw [if_neg (by omega)] at kk; exact kk
end MW
