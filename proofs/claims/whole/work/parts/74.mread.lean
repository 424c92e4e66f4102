/-! THE TEXT: the reference passes signs -/
section MP
variable {Γ : Cfg} {l : Launch} {d b : Nat} {g : GG} {K : Ou → HP → Prop} {T S P N : Int → Int} {L n p e q x y a lo hi : Int}
theorem AT.a0 (h : AT g T L n P a) : 0 ≤ a := h.1.1
theorem AT.a1 (h : AT g T L n P a) : a ≤ n := h.1.2.1
/-- blanks -/
theorem m_bl (hR : RD g T L) (hA : AT g T L n P a) (kk : ∀ g', oRd g g' → g' 171 10 = P a → g' 171 12 = P a → K (.inl vU) (stt g')) : Ct Γ l (d + 1) b yX12_blanks mX12_blanks [vR 171] (stt g) K :=
  m_blanks hR hA.1.2.2 hA.2 kk
/-- letters are passed: it stands where they end -/
def LT (g : GG) (T : Int → Int) (L : Int) (P : Int → Int) (a : Int) : Prop := g 171 12 = P a ∧ LE T L (P a) (g 171 10) ∧ P a ≤ g 171 10 ∧ g 171 10 ≤ L
theorem m_let (hS : TS T L n S P N) (hR : RD g T L) (hA : AT g T L n P a) (kk : ∀ g', oRd g g' → LT g' T L P a → K (.inl vU) (stt g')) : Ct Γ l (d + 2) b yX12_letters mX12_letters [vR 171] (stt g) K := by
  obtain ⟨r, h1, h2, h3⟩ := LE.ex T L (P a) (hS.p hA.a0 hA.a1).2.1
  exact m_letters hR hA.1.2.2 hA.2 h1 fun g' o f1 f2 => kk g' o ⟨f2, by rw [f1]; exact h1, by rw [f1]; exact h2, by rw [f1]; exact h3⟩
theorem LT.at (h : LT g T L P a) (hS : TS T L n S P N) (a0 : 0 ≤ a) (a1 : a ≤ n) {i : Nat} (hi : i < 30) (hs : S a = 1000 + i) : AT g T L n P (a + 1) := by
  have w := word_nx hS a0 a1 h.2.1 hi hs
  have hp := hS.p a0 a1
  exact ⟨⟨by omega, by omega, by have := h.2.2.1; omega⟩, w.2.2⟩
/-- whether the letters passed are a word -/
theorem m_wd (t : Int) (i : Nat) (ht : SS t) (hti : ssB t = ssB (sgS (1000 + i))) (hi : i < 30) (hS : TS T L n S P N) (hR : RD g T L) (a0 : 0 ≤ a) (a1 : a ≤ n) (hL : LT g T L P a) (k1 : S a = 1000 + i → AT g T L n P (a + 1) → K (.inl (vI 1)) (stt g)) (k0 : S a ≠ 1000 + i → K (.inl (vI 0)) (stt g)) : Ct Γ l (d + 4) b yX12_isWord mX12_isWord [vR 171, vR t] (stt g) K := by
  have hp := hS.p a0 a1
  have w := word_iff hS a0 a1 hL.2.1 hi hti
  exact m_isWord ht hR rfl hL.1 hp.1 hL.2.2.1 hL.2.2.2 (fun z => k1 (w.mp z) (hL.at hS a0 a1 hi (w.mp z))) (fun z => k0 (fun c => z (w.mpr c)))
theorem m_passes (t : Int) (i : Nat) (ht : SS t) (hti : ssB t = ssB (sgS (1000 + i))) (hi : i < 30) (hS : TS T L n S P N) (hR : RD g T L) (hA : AT g T L n P a) (k1 : S a = 1000 + i → ∀ g', oRd g g' → AT g' T L n P (a + 1) → g' 171 12 = P a → K (.inl (vI 1)) (stt g')) (k0 : S a ≠ 1000 + i → ∀ g', oRd g g' → AT g' T L n P a → g' 171 12 = P a → K (.inl (vI 0)) (stt g')) : Ct Γ l (d + 5) b yX12_passes mX12_passes [vR 171, vR t] (stt g) K := by
  have w0 : wr 0 = 0 := by decide +kernel
  have w1 : wr 1 = 1 := by decide +kernel
  apply wpX12_passes ht
  refine m_let hS hR hA fun g1 o1 l1 => bV_in ?_
  refine m_wd t i ht hti hi hS (hR.op o1) hA.a0 hA.a1 l1 (fun z z2 => bI_in ?_) (fun z => bI_in ?_)
  · rw [w1]
    exact ⟨fun c => absurd c (by decide), fun _ => k1 z g1 o1 z2 l1.1⟩
  · rw [w0]
    refine ⟨fun _ => k0 z _ (o1.trans (oRd.at g1 (Or.inl rfl))) (AT.self hS hA.a0 hA.a1 (by rw [upd2_eq, l1.1])) (by rw [upd2_nj (by decide), l1.1]), fun c => absurd rfl c⟩
theorem m_sign (c : Int) (i : Nat) (hi : i < 36) (hc : ssB (sgS (1000 + i)) = [c]) (c0 : 0 ≤ c) (cl : c < 97) (cd : c < 48 ∨ 57 < c) (hS : TS T L n S P N) (hR : RD g T L) (hA : AT g T L n P a) (k1 : S a = 1000 + i → ∀ g', oRd g g' → AT g' T L n P (a + 1) → g' 171 12 = P a → K (.inl (vI 1)) (stt g')) (k0 : S a ≠ 1000 + i → ∀ g', oRd g g' → AT g' T L n P a → g' 171 12 = P a → K (.inl (vI 0)) (stt g')) : Ct Γ l (d + 2) b yX12_sign mX12_sign [vR 171, vI c] (stt g) K := by
  have w0 : wr 0 = 0 := by decide +kernel
  have w1 : wr 1 = 1 := by decide +kernel
  have hp := hS.p hA.a0 hA.a1
  have w := mark_iff hS hA.a0 hA.a1 hi hc cl cd
  apply wpX12_sign
  refine m_bl hR hA fun g1 o1 f1 f2 => bV_in ?_
  refine m_isAt (hR.op o1) f1 hp.1 hp.2.1 c0 (by omega) (Int.le_refl _) (fun z1 z2 z3 => bI_in ?_) (fun z => bI_in ?_)
  · rw [w1, f1]
    have z : P a < L ∧ T (P a) = c := ⟨z1, by omega⟩
    have nx := mark_nx hS hA.a0 hA.a1 z cl cd
    refine ⟨fun _ => k1 (w.mp z) _ (o1.trans (oRd.at g1 (Or.inl rfl))) ⟨⟨by have := hA.a0; omega, by omega, ?_⟩, ?_⟩ (by rw [upd2_nj (by decide), f2]), fun q => absurd (show (1 : Int) ≠ 0 by decide) q⟩
    · rw [upd2_eq]; omega
    · rw [upd2_eq]; exact nx.2
  · rw [w0]
    refine ⟨fun q => absurd rfl q, fun _ => k0 (fun q => z ?_) g1 o1 (AT.self hS hA.a0 hA.a1 f1) f2⟩
    have := w.mpr q
    omega
theorem numV_s (T : Int → Int) (p : Int) (k : Nat) : numV T p (k + 1) = 10 * numV T p k + T (p + k) - 48 := by
  show numV T p k * 10 + T (p + k) - 48 = _
  omega
theorem m_number (hS : TS T L n S P N) (hR : RD g T L) (hA : AT g T L n P a) (l0 : 0 ≤ lo) (h9 : hi ≤ 999) (lh : lo ≤ hi) (k1 : S a = 1036 → lo ≤ N a → N a ≤ hi → ∀ g', oRd g g' → AT g' T L n P (a + 1) → g' 171 12 = P a → K (.inl (vI (N a))) (stt g')) (k0 : ¬ (S a = 1036 ∧ lo ≤ N a ∧ N a ≤ hi) → ∀ g', oRd g g' → g' 171 12 = P a → K (.inl (vI (-1))) (stt g')) : Ct Γ l (d + 2) b yX12_number mX12_number [vR 171, vI lo, vI hi] (stt g) K := by
  have w0 : wr 0 = 0 := by decide +kernel
  have w1 : wr 1 = 1 := by decide +kernel
  have hp := hS.p hA.a0 hA.a1
  have a0 := hA.a0
  have a1 := hA.a1
  apply wpX12_number
  refine m_bl hR hA fun g1 o1 f1 f2 => bV_in ?_
  by_cases dd : P a < L ∧ dgt T (P a)
  · have an := hp.2.2.2 dd.1
    obtain ⟨e, he, hs, hv⟩ := (hS.2.1 a a0 an).2
    have hs := hs.1 dd.2
    have hv := hv dd.2
    have hd := he.dig dd.2
    have he1 := he.1
    have hL := hR.2.2
    refine up_loop (P := fun i => ∀ g' y, oRd g g' → g' 171 12 = P a → g' 171 10 = P a + i → y = numV T (P a) (min i 3) → AW Γ l mX12_number (d + 2) b 6 [vR 171, vI lo, vI hi, vI y] [] (stt g') K) (N := (e - P a).toNat) (fun g' y o f2 f hy => ?_) (fun i hi9 hi8 g' y o f2 f hy => ?_) 0 (Nat.zero_le _) g1 0 o1 f2 (by rw [f1]; omega) rfl
    · rw [show P a + ((e - P a).toNat : Int) = e by omega] at f
      have hy2 := numV_rng (T := T) (p := P a) (k := min (e - P a).toNat 3) (by omega) (fun j hj => hd.1 _ (by omega) (by omega))
      rw [← hy] at hy2
      apply wpX12_number_6
      refine m_isAt (hR.op o) f (by omega) he1.2 (by decide) (by decide) (by decide) (fun c1 c2 c3 => ?_) (fun _ => bI_in ?_)
      · rcases hd.2 with z | z
        · omega
        · exact absurd ⟨c2, c3⟩ z
      · rw [w0, f, f2, wr_id (x := e) (by omega) (by omega), wr_id (x := P a) (by omega) (by omega), wr_id (x := e - P a) (by omega) (by omega), wr_id (x := y) (by omega) (by omega), wr_id (x := lo) (by omega) (by omega), wr_id (x := hi) (by omega) (by omega)]
        refine ⟨fun _ => ⟨fun c => absurd c (by omega), fun _ => ⟨fun c => ?_, fun c => ?_⟩⟩, fun c => absurd rfl c⟩
        · rw [if_neg (by omega)] at hs
          exact k0 (by omega) g' o f2
        · rw [if_pos (by omega)] at hs
          have yn : y = N a := by
            rw [hy, hv]
            congr 1
            omega
          refine ⟨fun c2 => k0 (by omega) g' o f2, fun c2 => ⟨fun c3 => ?_, fun c3 => k0 (by omega) g' o f2⟩⟩
          rw [yn]
          exact k1 hs (by omega) (by omega) g' o ⟨⟨by omega, by omega, by omega⟩, by rw [f]; exact hS.nxt a0 an he⟩ f2
    · have hb := hd.1 (P a + i) (by omega) (by omega)
      unfold dgt at hb
      have ht := hR.1 (P a + i) (by omega) (by have := hR.2.2; omega)
      apply wpX12_number_6
      refine m_isAt (hR.op o) f (by omega) (by omega) (by decide) (by decide) (by decide) (fun c1 c2 c3 => bI_in ?_) (fun c => absurd c (by omega))
      have f177 : g' 177 (P a + i) = T (P a + i) := by rw [o _ _ (by omega), ht.2, sb_lt (by omega)]
      rw [w1, f, f2, wr_id (x := P a + i - P a) (by omega) (by omega), wr_id (x := P a + (i : Int)) (by omega) (by omega), f177]
      refine ⟨fun c => absurd c (by decide), fun _ => ⟨fun c => hi8 _ _ (o.trans (oRd.at g' (Or.inl rfl))) (by rw [upd2_nj (by decide), f2]) (by rw [upd2_eq]; omega) ?_, fun c => ⟨⟨by omega, by omega⟩, hi8 _ _ (o.trans (oRd.at g' (Or.inl rfl))) (by rw [upd2_nj (by decide), f2]) (by rw [upd2_eq]; omega) ?_⟩⟩⟩
      · rw [hy, show min (i + 1) 3 = min i 3 by omega]
      · rw [hy, show min (i + 1) 3 = i + 1 by omega, show min i 3 = i by omega, numV_s]
  · apply wpX12_number_6
    refine m_isAt (hR.op o1) f1 hp.1 hp.2.1 (by decide) (by decide) (by decide) (fun c1 c2 c3 => absurd ⟨c1, c2, c3⟩ dd) (fun _ => bI_in ?_)
    rw [w0, f1, f2]
    refine ⟨fun _ => ⟨fun _ => k0 (fun z => ?_) g1 o1 f2, fun c => absurd rfl c⟩, fun c => absurd rfl c⟩
    obtain ⟨an, e, h1, h2, _⟩ := hS.num a0 a1 z.1
    exact dd ⟨hp.2.2.1 an, h2⟩
/-- the class's numbers -/
theorem k_tells (hp : CP g S P N a) (hs : SG (S a)) (hw : S a = 1036 → 0 ≤ N a ∧ N a ≤ 999) (l0 : 0 ≤ lo) (h9 : hi ≤ 999) (lh : lo ≤ hi) (k1 : S a = 1036 ∧ lo ≤ N a ∧ N a ≤ hi → K (.inl (vI 1)) (stt g)) (k0 : ¬ (S a = 1036 ∧ lo ≤ N a ∧ N a ≤ hi) → K (.inl (vI 0)) (stt g)) : Ct Γ l d b yX10_tells mX10_tells [vR 4, vI lo, vI hi] (stt g) K := by
  apply wpX10_tells
  rw [hp.2.1, hp.2.2.2]
  refine ⟨hs, fun c => k0 (fun z => c z.1), fun c => ?_⟩
  have w := hw c
  rw [wr_id (x := N a) (by omega) (by omega), wr_id (x := lo) (by omega) (by omega), wr_id (x := hi) (by omega) (by omega)]
  exact ⟨fun c1 => k0 (by omega), fun c1 => ⟨fun c2 => k0 (by omega), fun c2 => k1 ⟨c, by omega, by omega⟩⟩⟩
theorem TS.n9 (h : TS T L n S P N) (a0 : 0 ≤ a) (a1 : a ≤ n) : S a = 1036 → 0 ≤ N a ∧ N a ≤ 999 := fun c => by
  obtain ⟨_, e, _, _, _, _, h1, h2⟩ := h.num a0 a1 c
  exact ⟨h1, h2⟩
end MP
