/-! THE TEXT: the class's scan, its steps -/
/-- the signs as they lie in the class's rows; where the text stands -/
def CQ (g : GG) (n : Int) (S P N : Int → Int) : Prop := ∀ k, 0 ≤ k → k ≤ n → g 5 k = S k ∧ g 6 k = P k ∧ g 7 k = N k
def CP (g : GG) (S P N : Int → Int) (a : Int) : Prop := g 4 3 = a ∧ g 4 4 = S a ∧ g 4 5 = P a ∧ g 4 6 = N a
theorem SGN.sg {T : Int → Int} {p e s : Int} (h : SGN T p e s) : SG s ∧ s ≠ 1037 := by
  unfold SG
  by_cases c : dgt T p
  · have := h.1 c
    omega
  · rcases h.2 c with ⟨i, i1, i2, _⟩ | ⟨h2, _⟩
    · omega
    · omega
theorem TS.sg {T : Int → Int} {L n : Int} {S P N : Int → Int} (h : TS T L n S P N) {k : Int} (k0 : 0 ≤ k) (k1 : k ≤ n) : SG (S k) := by
  by_cases c : k = n
  · rw [c, h.1.2.1]
    exact ⟨by decide, by decide⟩
  · obtain ⟨e, _, h2, _⟩ := (h.2.1 k k0 (by omega)).2
    exact h2.sg.1
theorem LK.cg {T : Int → Int} {L k e : Int} {P P' : Int → Int} (h : LK T L P k e) (c : 0 < k → P' (k - 1) = P (k - 1)) : LK T L P' k e := by
  rcases h with h | ⟨h1, h2⟩
  · exact Or.inl h
  · exact Or.inr ⟨h1, by rw [c h1]; exact h2⟩
theorem gop_32 {y : Int} : ¬ gop 32 y := by
  unfold gop
  omega
section SK
variable {Γ : Cfg} {l : Launch} {d b : Nat} {g : GG} {K : Ou → HP → Prop} {T S P N : Int → Int} {L n p e i x y a : Int}
theorem k_step (hq : CQ g n S P N) (hg : ∀ k, 0 ≤ k → k ≤ n → SG (S k)) (ha : g 4 3 = a) (a0 : 0 ≤ a + 1) (a1 : a + 1 ≤ n) (n1 : n ≤ 400) (kk : ∀ g', CP g' S P N (a + 1) → CQ g' n S P N → (∀ x j, ¬ (x = 4 ∧ 3 ≤ j ∧ j ≤ 6) → g' x j = g x j) → K (.inl vU) (stt g')) : Ct Γ l (d + 1) b yX10_step mX10_step [vR 4] (stt g) K := by
  have l5 : ln 5 = 401 := by decide +kernel
  have l6 : ln 6 = 401 := by decide +kernel
  have l7 : ln 7 = 401 := by decide +kernel
  have q := hq (a + 1) a0 a1
  have sg := hg (a + 1) a0 a1
  apply wpX10_step
  rw [ha, upd2_eq, wr_id (x := a + 1) (by omega) (by omega), upd2_ne (show (5 : Int) ≠ 4 by decide), q.1]
  refine ⟨fun c => absurd c (by omega), fun _ => ⟨fun c => absurd c (by omega), fun _ => ⟨⟨by omega, by omega⟩, fun c => absurd c (by have := sg.1; omega), fun _ g1 e1 => ?_⟩⟩⟩
  have c3 : upd2 (upd2 g 4 3 (a + 1)) 4 4 (S (a + 1)) 4 3 = a + 1 := by rw [upd2_nj (by decide), upd2_eq]
  rw [c3, cel_in a0 (by rw [l6]; omega), upd2_ne (by decide), upd2_ne (by decide), q.2.1] at e1
  have g13 : g1 4 3 = a + 1 := by rw [e1, upd2_nj (by decide), upd2_nj (by decide), upd2_eq]
  have fr : ∀ x j, ¬ (x = 4 ∧ 3 ≤ j ∧ j ≤ 6) → g1 x j = g x j := fun x j hn => by
    have c : ∀ k : Int, 3 ≤ k → k ≤ 6 → ¬ (j = k ∧ x = 4) := fun k k0 k1 z => hn ⟨z.2, by omega, by omega⟩
    rw [e1]
    show (if j = 5 ∧ x = 4 then P (a + 1) else if j = 4 ∧ x = 4 then S (a + 1) else if j = 3 ∧ x = 4 then a + 1 else g x j) = g x j
    rw [if_neg (c 5 (by decide) (by decide)), if_neg (c 4 (by decide) (by decide)), if_neg (c 3 (by decide) (by decide))]
  rw [g13, cel_in a0 (by rw [l7]; omega), fr 7 _ (by omega), q.2.2]
  refine kk _ ⟨?_, ?_, ?_, upd2_eq⟩ (fun k k0 k1 => ?_) (fun x j hn => ?_)
  · rw [upd2_nj (by decide), g13]
  · rw [upd2_nj (by decide), e1, upd2_nj (by decide), upd2_eq]
  · rw [upd2_nj (by decide), e1, upd2_eq]
  · rw [upd2_ne (by decide), upd2_ne (by decide), upd2_ne (by decide), fr _ _ (by omega), fr _ _ (by omega), fr _ _ (by omega)]
    exact hq k k0 k1
  · rw [show upd2 g1 4 6 (N (a + 1)) x j = g1 x j from if_neg (fun z => hn ⟨z.2, by omega, by omega⟩)]
    exact fr x j hn
theorem k_addSign {s : Int} (hs : SG s) (i0 : 0 ≤ i) (i1 : i ≤ 400) (kk : K (.inl vU) (stt (upd2 (upd2 g 5 i s) 6 i x))) : Ct Γ l (d + 1) b yX10_addSign mX10_addSign [vR 4, vI i, vR s, vI x] (stt g) K := by
  have l6 : ln 6 = 401 := by decide +kernel
  apply wpX10_addSign hs
  rw [wr_id (x := i) (by omega) (by omega), puc_in (r := 6) i0 (by rw [l6]; omega), puc_in (r := 6) i0 (by rw [l6]; omega)]
  exact ⟨fun c => absurd c (by omega), fun _ => ⟨fun c => absurd c (by omega), fun _ => ⟨⟨by omega, by omega⟩, kk⟩⟩⟩
/-- what is found so far -/
def SV (T : Int → Int) (L : Int) (g : GG) (f i : Int) : Prop := (0 ≤ f ∧ f ≤ i) ∧ (∀ k, 0 ≤ k → k < f → (0 ≤ g 6 k ∧ g 6 k < i) ∧ TOK T L (g 6 k) (g 5 k) (g 7 k)) ∧
  (∀ k, 0 ≤ k → k < f → ∃ e, LK T L (g 6) k e ∧ NX T L e (g 6 k)) ∧ ∃ e, LK T L (g 6) f e ∧ 0 ≤ e ∧ ∀ j, e ≤ j → j < i → T j = 32
theorem SV.no {f : Int} (h : SV T L g f i) (i0 : 0 ≤ i) (i1 : i < L) (hb : ¬ bgS T i) : SV T L g f (i + 1) := by
  obtain ⟨⟨f0, f1⟩, h2, h3, e, h4, e0, h5⟩ := h
  refine ⟨⟨f0, by omega⟩, fun k k0 k1 => ⟨by have := (h2 k k0 k1).1; omega, (h2 k k0 k1).2⟩, h3, e, h4, e0, fun j j0 j1 => ?_⟩
  by_cases c : j = i
  · subst c
    by_cases z : T j = 32
    · exact z
    · exfalso
      refine hb ⟨z, ?_⟩
      by_cases j9 : j = 0
      · exact Or.inl j9
      · refine Or.inr fun w => ?_
        by_cases c2 : e = j
        · rcases h4 with h4 | ⟨_, h4⟩
          · omega
          · rcases h4.2.2 with h6 | h6
            · omega
            · rw [c2] at h6; exact h6 w
        · have := h5 (j - 1) (by omega) (by omega)
          unfold gO at w
          rw [this] at w
          exact gop_32 w
  · exact h5 j j0 (by omega)
theorem SV.yes {f e s v : Int} (h : SV T L g f i) (i0 : 0 ≤ i) (i1 : i < L) (hb : bgS T i) (he : EN T L i e) (hs : SGN T i e s) (hv : dgt T i → v = numV T i (e - i).toNat) : SV T L (upd2 (upd2 (upd2 g 5 f s) 6 f i) 7 f v) (f + 1) (i + 1) := by
  obtain ⟨⟨f0, f1⟩, h2, h3, e1, h4, e0, h5⟩ := h
  have e1i : e1 ≤ i := by
    rcases h4 with h4 | ⟨k0, h4⟩
    · omega
    · refine Int.not_lt.mp fun c => ?_
      have p := (h2 (f - 1) (by omega) (by omega)).1
      have w := h4.2.1 i (by omega) c
      rcases hb.2 with z | z
      · omega
      · exact z w
  have r6 : ∀ k, k ≠ f → (upd2 (upd2 (upd2 g 5 f s) 6 f i) 7 f v) 6 k = g 6 k := fun k hk => by rw [upd2_ne (by decide), upd2_nj hk, upd2_ne (by decide)]
  have r5 : ∀ k, k ≠ f → (upd2 (upd2 (upd2 g 5 f s) 6 f i) 7 f v) 5 k = g 5 k := fun k hk => by rw [upd2_ne (by decide), upd2_ne (by decide), upd2_nj hk]
  have r7 : ∀ k, k ≠ f → (upd2 (upd2 (upd2 g 5 f s) 6 f i) 7 f v) 7 k = g 7 k := fun k hk => by rw [upd2_nj hk, upd2_ne (by decide), upd2_ne (by decide)]
  have q6 : (upd2 (upd2 (upd2 g 5 f s) 6 f i) 7 f v) 6 f = i := by rw [upd2_ne (by decide), upd2_eq]
  have q5 : (upd2 (upd2 (upd2 g 5 f s) 6 f i) 7 f v) 5 f = s := by rw [upd2_ne (by decide), upd2_ne (by decide), upd2_eq]
  have q7 : (upd2 (upd2 (upd2 g 5 f s) 6 f i) 7 f v) 7 f = v := upd2_eq
  generalize upd2 (upd2 (upd2 g 5 f s) 6 f i) 7 f v = g' at *
  refine ⟨⟨by omega, by omega⟩, fun k k0 k1 => ?_, fun k k0 k1 => ?_, e, Or.inr ⟨by omega, by rw [show f + 1 - 1 = f by omega, q6]; exact he⟩, by have := he.1; omega, fun j j0 j1 => by have := he.1; omega⟩
  · by_cases c : k = f
    · rw [c, q6, q5, q7]
      exact ⟨⟨i0, by omega⟩, e, he, hs, hv⟩
    · rw [r6 k c, r5 k c, r7 k c]
      have := h2 k k0 (by omega)
      exact ⟨by omega, this.2⟩
  · by_cases c : k = f
    · rw [c, q6]
      refine ⟨e1, h4.cg fun _ => r6 _ (by omega), ⟨e1i, by omega⟩, h5, Or.inr hb.1⟩
    · obtain ⟨e2, a1, a2⟩ := h3 k k0 (by omega)
      rw [r6 k c]
      exact ⟨e2, a1.cg fun _ => r6 _ (by omega), a2⟩
theorem k_scan (hT : TC g T) (L0 : 0 ≤ L) (L1 : L ≤ 400) (kk : ∀ g' n S P N, TS T L n S P N → CQ g' n S P N → CP g' S P N 0 → (∀ x j, ¬ (x = 4 ∧ 3 ≤ j ∧ j ≤ 6) → ¬ (5 ≤ x ∧ x ≤ 7) → g' x j = g x j) → K (.inl vU) (stt g')) : Ct Γ l (d + 6) b yX10_scan mX10_scan [vR 4, vR 3, vI L] (stt g) K := by
  have w0 : wr 0 = 0 := by decide +kernel
  have w1 : wr 1 = 1 := by decide +kernel
  have l7 : ln 7 = 401 := by decide +kernel
  apply wpX10_scan IA3
  refine up_loop (P := fun i => ∀ f g' y, SV T L g' f i → (∀ x j, ¬ (5 ≤ x ∧ x ≤ 7) → g' x j = g x j) → AW Γ l mX10_scan (d + 6) b 5 [vR 4, vR 3, vI L, vI f, vI (i : Int), y] [] (stt g') K) (N := L.toNat) (fun f g' y h o => ?_) (fun i hi9 hi f g' y h o => ?_) 0 (Nat.zero_le _) 0 g vU ⟨⟨by decide, by decide⟩, fun k k0 k1 => absurd k1 (by omega), fun k k0 k1 => absurd k1 (by omega), 0, Or.inl ⟨rfl, rfl⟩, by decide, fun j j0 j1 => absurd j1 (by omega)⟩ (fun _ _ _ => rfl)
  · refine AW.weak (L' := [vR 4, vR 3, vI L, vI f, vI (L.toNat : Int), vU]) ?_ (by simp [leP])
    have hL : (L.toNat : Int) = L := by omega
    obtain ⟨⟨f0, f1⟩, h2, h3, e, h4, e0, h5⟩ := h
    rw [hL] at f1 h2 h5 ⊢
    apply wpX10_scan_5 IA3
    rw [wr_id (x := L) (by omega) (by omega)]
    refine ⟨fun _ => k_addSign ⟨by decide, by decide⟩ f0 (by omega) (bV_in ?_), fun c => absurd (Int.le_refl L) c⟩
    have r6 : ∀ k, k ≠ f → (upd2 (upd2 (upd2 g' 5 f 1037) 6 f L) 4 3 (-1)) 6 k = g' 6 k := fun k hk => by rw [upd2_ne (by decide), upd2_nj hk, upd2_ne (by decide)]
    have r5 : ∀ k, k ≠ f → (upd2 (upd2 (upd2 g' 5 f 1037) 6 f L) 4 3 (-1)) 5 k = g' 5 k := fun k hk => by rw [upd2_ne (by decide), upd2_ne (by decide), upd2_nj hk]
    have r7 : ∀ k, (upd2 (upd2 (upd2 g' 5 f 1037) 6 f L) 4 3 (-1)) 7 k = g' 7 k := fun k => by rw [upd2_ne (by decide), upd2_ne (by decide), upd2_ne (by decide)]
    have q6 : (upd2 (upd2 (upd2 g' 5 f 1037) 6 f L) 4 3 (-1)) 6 f = L := by rw [upd2_ne (by decide), upd2_eq]
    have q5 : (upd2 (upd2 (upd2 g' 5 f 1037) 6 f L) 4 3 (-1)) 5 f = 1037 := by rw [upd2_ne (by decide), upd2_ne (by decide), upd2_eq]
    have q4 : (upd2 (upd2 (upd2 g' 5 f 1037) 6 f L) 4 3 (-1)) 4 3 = -1 := upd2_eq
    have ro : ∀ x j, ¬ (x = 4 ∧ 3 ≤ j ∧ j ≤ 6) → ¬ (5 ≤ x ∧ x ≤ 7) → (upd2 (upd2 (upd2 g' 5 f 1037) 6 f L) 4 3 (-1)) x j = g x j := fun x j c1 c2 => by
      rw [← o x j c2]
      show (if j = 3 ∧ x = 4 then (-1 : Int) else if j = f ∧ x = 6 then L else if j = f ∧ x = 5 then 1037 else g' x j) = g' x j
      rw [if_neg (fun z => c1 ⟨z.2, by omega, by omega⟩), if_neg (fun z => c2 (by omega)), if_neg (fun z => c2 (by omega))]
    generalize upd2 (upd2 (upd2 g' 5 f 1037) 6 f L) 4 3 (-1) = g1 at *
    have ts : TS T L f (g1 5) (g1 6) (g1 7) := by
      refine ⟨⟨⟨f0, f1, L1⟩, q5, q6⟩, fun k k0 k1 => ?_, fun k k0 k1 => ?_⟩
      · rw [r6 k (by omega), r5 k (by omega), r7 k]
        exact h2 k k0 k1
      · by_cases c : k = f
        · rw [c, q6]
          refine ⟨e, h4.cg fun _ => r6 _ (by omega), ⟨?_, Int.le_refl L⟩, h5, Or.inl rfl⟩
          rcases h4 with h4 | h4
          · omega
          · exact h4.2.1.2
        · obtain ⟨e2, a1, a2⟩ := h3 k k0 (by omega)
          rw [r6 k c]
          exact ⟨e2, a1.cg fun _ => r6 _ (by omega), a2⟩
    exact k_step (a := -1) (fun k _ _ => ⟨rfl, rfl, rfl⟩) (fun k k0 k1 => ts.sg k0 k1) q4 (by decide) f0 (by omega) fun g2 p2 c2 o2 => bV_in (kk g2 f _ _ _ ts c2 p2 fun x j c3 c4 => by rw [o2 x j c3]; exact ro x j c3 c4)
  · refine AW.weak (L' := [vR 4, vR 3, vI L, vI f, vI (i : Int), vU]) ?_ (by simp [leP])
    have hc' : TC g' T := fun j j0 j1 => by rw [o _ _ (by omega)]; exact hT j j0 j1
    apply wpX10_scan_5 IA3
    rw [wr_id (x := L) (by omega) (by omega), wr_id (x := (i : Int)) (by omega) (by omega)]
    refine ⟨fun c => absurd c (by omega), fun _ => k_beginsSign hc' (by omega) (by omega) (fun hb => bI_in ?_) (fun hb => bI_in ?_)⟩
    · rw [w1]
      refine ⟨fun c => absurd c (by decide), fun _ => ?_⟩
      refine k_endOf hc' (by omega) (by omega) L1 fun e he => bI_in ?_
      refine k_signOf hc' (by omega) he.1.1 (by have := he.1; omega) fun s hs hn => bR_in ?_
      have hf := h.1
      refine k_addSign hs (by omega) (by omega) (bV_in ?_)
      have oo : ∀ x j, ¬ (5 ≤ x ∧ x ≤ 7) → (upd2 (upd2 g' 5 f s) 6 f i) x j = g x j := fun x j hx => by rw [upd2_ne (by omega), upd2_ne (by omega), o x j hx]
      have hc2 : TC (upd2 (upd2 g' 5 f s) 6 f i) T := fun j j0 j1 => by rw [oo _ _ (by omega)]; exact hT j j0 j1
      have hy := fun v hv => h.yes (e := e) (s := s) (v := v) (by omega) (by omega) hb he hn hv
      have ci := hc2.c (i := (i : Int)) (by omega) (by omega)
      generalize upd2 (upd2 g' 5 f s) 6 f i = g1 at *
      rw [ci.1]
      refine k_isDigit ci.2.1 (fun z => bI_in ?_) (fun z => bI_in ?_)
      · rw [w1]
        refine ⟨fun c => absurd c (by decide), fun _ => k_numberOf hc2 (by omega) he.1.1 (by have := he.1; omega) (bI_in ?_)⟩
        rw [puc_in hf.1 (by rw [l7]; omega)]
        exact hi _ _ _ (hy _ (fun _ => rfl)) (fun x j hx => by rw [upd2_ne (by omega)]; exact oo x j hx)
      · rw [w0]
        refine ⟨fun _ => ?_, fun c => absurd rfl c⟩
        rw [puc_in hf.1 (by rw [l7]; omega)]
        exact hi _ _ _ (hy _ (fun c => absurd c z)) (fun x j hx => by rw [upd2_ne (by omega)]; exact oo x j hx)
    · rw [w0]
      exact ⟨fun _ => hi f g' vU (h.no (by omega) (by omega) hb) o, fun c => absurd rfl c⟩
end SK
