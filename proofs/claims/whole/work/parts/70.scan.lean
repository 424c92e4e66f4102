/-! THE TEXT: where its signs begin and end; the class's scan -/
def gop (x y : Int) : Prop := (97 ≤ x ∧ x ≤ 122 ∧ 97 ≤ y ∧ y ≤ 122) ∨ (48 ≤ x ∧ x ≤ 57 ∧ 48 ≤ y ∧ y ≤ 57)
def gO (T : Int → Int) (i : Int) : Prop := gop (T (i - 1)) (T i)
def bgS (T : Int → Int) (i : Int) : Prop := T i ≠ 32 ∧ (i = 0 ∨ ¬ gO T i)
/-- the sign that begins at p ends at e -/
def EN (T : Int → Int) (L p e : Int) : Prop := (p < e ∧ e ≤ L) ∧ (∀ j, p < j → j < e → gO T j) ∧ (e = L ∨ ¬ gO T e)
/-- behind q's blanks stands p -/
def NX (T : Int → Int) (L q p : Int) : Prop := (q ≤ p ∧ p ≤ L) ∧ (∀ j, q ≤ j → j < p → T j = 32) ∧ (p = L ∨ T p ≠ 32)
def sbt (T : Int → Int) (p e : Int) : List Int := (List.range (e - p).toNat).map (fun (k : Nat) => T (p + (k : Int)))
def numV (T : Int → Int) (p : Int) (k : Nat) : Int := fd (fun v i => v * 10 + T (p + i) - 48) 0 k
def dgt (T : Int → Int) (p : Int) : Prop := 48 ≤ T p ∧ T p ≤ 57
def SGN (T : Int → Int) (p e s : Int) : Prop := (dgt T p → s = if e - p ≤ 3 then 1036 else 1038) ∧ (¬ dgt T p → ((∃ i : Nat, i < 36 ∧ s = 1000 + i ∧ ssB (sgS s) = sbt T p e) ∨ (s = 1038 ∧ ∀ i : Nat, i < 36 → ssB (sgS (1000 + i)) ≠ sbt T p e)))
def TOK (T : Int → Int) (L p s v : Int) : Prop := ∃ e, EN T L p e ∧ SGN T p e s ∧ (dgt T p → v = numV T p (e - p).toNat)
/-- where sign k may begin -/
def LK (T : Int → Int) (L : Int) (P : Int → Int) (k e : Int) : Prop := (k = 0 ∧ e = 0) ∨ (0 < k ∧ EN T L (P (k - 1)) e)
/-- the signs of a text: what each is, where it begins, its number -/
def TS (T : Int → Int) (L n : Int) (S P N : Int → Int) : Prop :=
  ((0 ≤ n ∧ n ≤ L ∧ L ≤ 400) ∧ S n = 1037 ∧ P n = L) ∧ (∀ k, 0 ≤ k → k < n → (0 ≤ P k ∧ P k < L) ∧ TOK T L (P k) (S k) (N k)) ∧
  ∀ k, 0 ≤ k → k ≤ n → ∃ e, LK T L P k e ∧ NX T L e (P k)
theorem EN.one {T : Int → Int} {L p e e' : Int} (h : EN T L p e) (h' : EN T L p e') : e = e' := by
  obtain ⟨⟨a1, a2⟩, a3, a4⟩ := h
  obtain ⟨⟨b1, b2⟩, b3, b4⟩ := h'
  by_cases c : e < e'
  · rcases a4 with a4 | a4
    · omega
    · exact absurd (b3 e a1 c) a4
  · by_cases c2 : e' < e
    · rcases b4 with b4 | b4
      · omega
      · exact absurd (a3 e' b1 c2) b4
    · omega
theorem NX.one {T : Int → Int} {L q p p' : Int} (h : NX T L q p) (h' : NX T L q p') : p = p' := by
  obtain ⟨⟨a1, a2⟩, a3, a4⟩ := h
  obtain ⟨⟨b1, b2⟩, b3, b4⟩ := h'
  by_cases c : p < p'
  · rcases a4 with a4 | a4
    · omega
    · exact absurd (b3 p a1 c) a4
  · by_cases c2 : p' < p
    · rcases b4 with b4 | b4
      · omega
      · exact absurd (a3 p' b1 c2) b4
    · omega
theorem gd_at {q : List Int} {k : Nat} (h : k < q.length) : q.getD k 0 = q[k] := by
  rw [List.getD_eq_getElem?_getD, List.getElem?_eq_getElem h]
  rfl
theorem gd_out {q : List Int} {k : Nat} (h : q.length ≤ k) : q.getD k 0 = 0 := by
  rw [List.getD_eq_getElem?_getD, List.getElem?_eq_none h]
  rfl
theorem sbt_len {T : Int → Int} {p e : Int} (h : p ≤ e) : ((sbt T p e).length : Int) = e - p := by
  unfold sbt
  rw [List.length_map, List.length_range]
  omega
theorem sbt_at {T : Int → Int} {p e : Int} {k : Nat} (hk : (k : Int) < e - p) : (sbt T p e).getD k 0 = T (p + k) := by
  have h : k < (sbt T p e).length := by
    unfold sbt
    rw [List.length_map, List.length_range]
    omega
  rw [gd_at h]
  unfold sbt at h ⊢
  rw [List.getElem_map, List.getElem_range]
theorem sbt_iff {T : Int → Int} {p e : Int} {q : List Int} (h : p ≤ e) : q = sbt T p e ↔ ((q.length : Int) = e - p ∧ ∀ k : Nat, k < q.length → q.getD k 0 = T (p + k)) := by
  constructor
  · intro z
    subst z
    have l := sbt_len (T := T) h
    exact ⟨l, fun k hk => sbt_at (by omega)⟩
  · intro z
    have l := sbt_len (T := T) h
    refine List.ext_getElem (by omega) fun k h1 h2 => ?_
    have a := z.2 k h1
    rw [gd_at h1] at a
    have b := sbt_at (T := T) (p := p) (e := e) (k := k) (by omega)
    rw [gd_at h2] at b
    rw [a, b]
theorem ssB_ok {t : Int} (h : SS t) : ssL t ≤ 100 ∧ ∀ x ∈ ssB t, 0 ≤ x ∧ x ≤ 127 := by
  obtain ⟨i, hi, rfl⟩ := h.eq
  have k := List.all_eq_true.mp (show (List.range 83).all (fun i => decide ((stByt i).length ≤ 100 ∧ ∀ x ∈ stByt i, 0 ≤ x ∧ x ≤ 127)) = true by decide +kernel) i (List.mem_range.mpr hi)
  have k2 := of_decide_eq_true k
  unfold ssL ssB
  rw [show (2000 + (i : Int) - 2000).toNat = i by omega]
  exact ⟨by have := k2.1; omega, k2.2⟩
theorem ssB_at {t : Int} (h : SS t) (k : Nat) : 0 ≤ (ssB t).getD k 0 ∧ (ssB t).getD k 0 ≤ 127 := by
  by_cases c : k < (ssB t).length
  · rw [gd_at c]
    exact (ssB_ok h).2 _ (List.getElem_mem c)
  · rw [gd_out (by omega)]
    decide
theorem sgS_ok {i : Nat} (hi : i < 39) : SS (sgS (1000 + i)) ∧ (36 ≤ i → ssB (sgS (1000 + i)) = []) := by
  have k := of_decide_eq_true (List.all_eq_true.mp (show (List.range 39).all (fun i => decide (sgStr i < 83 ∧ (36 ≤ i → stByt (sgStr i) = []))) = true by decide +kernel) i (List.mem_range.mpr hi))
  unfold sgS ssB
  rw [show (1000 + (i : Int) - 1000).toNat = i by omega]
  refine ⟨⟨by omega, by have := k.1; omega⟩, fun c => ?_⟩
  rw [show (2000 + (sgStr i : Int) - 2000).toNat = sgStr i by omega]
  exact k.2 c
theorem IA3 : IA 3 := show (shp 3).1 = 0 by decide +kernel
section SC
variable {Γ : Cfg} {l : Launch} {d b : Nat} {g : GG} {K : Ou → HP → Prop} {T : Int → Int} {L n p e i x y : Int}
theorem k_isLetter (hx : wr x = x) (k1 : (97 ≤ x ∧ x ≤ 122) → K (.inl (vI 1)) (stt g)) (k0 : ¬ (97 ≤ x ∧ x ≤ 122) → K (.inl (vI 0)) (stt g)) : Ct Γ l d b yX10_isLetter mX10_isLetter [vI x] (stt g) K := by
  apply wpX10_isLetter
  rw [hx]
  exact ⟨fun c => k0 (by omega), fun c => ⟨fun c2 => k0 (by omega), fun c2 => k1 (by omega)⟩⟩
theorem k_isDigit (hx : wr x = x) (k1 : (48 ≤ x ∧ x ≤ 57) → K (.inl (vI 1)) (stt g)) (k0 : ¬ (48 ≤ x ∧ x ≤ 57) → K (.inl (vI 0)) (stt g)) : Ct Γ l d b yX10_isDigit mX10_isDigit [vI x] (stt g) K := by
  apply wpX10_isDigit
  rw [hx]
  exact ⟨fun c => k0 (by omega), fun c => ⟨fun c2 => k0 (by omega), fun c2 => k1 (by omega)⟩⟩
theorem k_goOn (hx : wr x = x) (hy : wr y = y) (k1 : gop x y → K (.inl (vI 1)) (stt g)) (k0 : ¬ gop x y → K (.inl (vI 0)) (stt g)) : Ct Γ l (d + 1) b yX10_goOn mX10_goOn [vI x, vI y] (stt g) K := by
  have w0 : wr 0 = 0 := by decide +kernel
  have w1 : wr 1 = 1 := by decide +kernel
  unfold gop at k1 k0
  apply wpX10_goOn
  refine k_isLetter hx (fun a => bI_in ?_) (fun a => bI_in ?_)
  · rw [w1]
    refine ⟨fun c => absurd c (by decide), fun _ => k_isLetter hy (fun c => bI_in ?_) (fun c => bI_in ?_)⟩
    · rw [w1]; exact ⟨fun _ => k1 (by omega), fun c => absurd (by decide) c⟩
    · rw [w0]
      refine ⟨fun c => absurd rfl c, fun _ => k_isDigit hx (fun c => by omega) (fun c2 => bI_in ?_)⟩
      rw [w0]; exact ⟨fun _ => k0 (by omega), fun c => absurd rfl c⟩
  · rw [w0]
    refine ⟨fun _ => k_isDigit hx (fun c => bI_in ?_) (fun c => bI_in ?_), fun c => absurd rfl c⟩
    · rw [w1]
      refine ⟨fun c => absurd c (by decide), fun _ => k_isDigit hy (fun c => bI_in ?_) (fun c => bI_in ?_)⟩
      · rw [w1]; exact ⟨fun c => absurd c (by decide), fun _ => k1 (by omega)⟩
      · rw [w0]; exact ⟨fun _ => k0 (by omega), fun c => absurd rfl c⟩
    · rw [w0]; exact ⟨fun _ => k0 (by omega), fun c => absurd rfl c⟩
theorem k_beginsSign (hT : TC g T) (i0 : 0 ≤ i) (i1 : i < 400) (k1 : bgS T i → K (.inl (vI 1)) (stt g)) (k0 : ¬ bgS T i → K (.inl (vI 0)) (stt g)) : Ct Γ l (d + 2) b yX10_beginsSign mX10_beginsSign [vR 3, vI i] (stt g) K := by
  have w0 : wr 0 = 0 := by decide +kernel
  have w1 : wr 1 = 1 := by decide +kernel
  have hc := hT.c i0 i1
  apply wpX10_beginsSign IA3
  rw [hc.1, hc.2.1, wr_id (x := i) (by omega) (by omega)]
  refine ⟨fun c => k0 (fun z => z.1 c), fun c => ⟨fun c2 => k1 ⟨c, Or.inl c2⟩, fun c2 => ?_⟩⟩
  have hp := hT.c (i := i - 1) (by omega) (by omega)
  rw [hp.1]
  refine k_goOn hp.2.1 hc.2.1 (fun z => bI_in ?_) (fun z => bI_in ?_)
  · rw [w1]; exact ⟨fun _ => k0 (fun q => q.2.elim c2 (fun q => q z)), fun c => absurd (by decide) c⟩
  · rw [w0]; exact ⟨fun c => absurd rfl c, fun _ => k1 ⟨c, Or.inr z⟩⟩
theorem k_endOf (hT : TC g T) (p0 : 0 ≤ p) (p1 : p < L) (L1 : L ≤ 400) (kk : ∀ e, EN T L p e → K (.inl (vI e)) (stt g)) : Ct Γ l (d + 2) b yX10_endOf mX10_endOf [vR 3, vI p, vI L] (stt g) K := by
  have w0 : wr 0 = 0 := by decide +kernel
  have w1 : wr 1 = 1 := by decide +kernel
  apply wpX10_endOf IA3
  have key := up_loop (P := fun i => (∀ j, p < j → j < p + 1 + i → gO T j) → AW Γ l mX10_endOf (d + 2) b 4 [vR 3, vI p, vI L, vI (p + 1 + (i : Int))] [] (stt g) K) (N := (L - p - 1).toNat) (fun f => ?_) (fun i hi9 hi f => ?_) 0 (Nat.zero_le _) (fun j j0 j1 => absurd j0 (by omega))
  · exact (show p + 1 + ((0 : Nat) : Int) = p + 1 by omega) ▸ key
  · apply wpX10_endOf_4 IA3
    rw [wr_id (x := L) (by omega) (by omega), wr_id (x := p + 1 + ((L - p - 1).toNat : Int)) (by omega) (by omega)]
    refine ⟨fun _ => kk _ ⟨⟨by omega, by omega⟩, f, Or.inl (by omega)⟩, fun c => absurd (show L ≤ p + 1 + ((L - p - 1).toNat : Int) by omega) c⟩
  · have hc := hT.c (i := p + 1 + (i : Int)) (by omega) (by omega)
    have hp := hT.c (i := p + 1 + (i : Int) - 1) (by omega) (by omega)
    apply wpX10_endOf_4 IA3
    rw [wr_id (x := L) (by omega) (by omega), wr_id (x := p + 1 + (i : Int)) (by omega) (by omega), hc.1, hp.1]
    refine ⟨fun c => absurd c (by omega), fun _ => k_goOn hp.2.1 hc.2.1 (fun z => bI_in ?_) (fun z => bI_in ?_)⟩
    · rw [w1]
      refine ⟨fun c => absurd c (by decide), fun _ => ?_⟩
      have := hi (fun j j0 j1 => by
        by_cases x : j = p + 1 + (i : Int)
        · rw [x]; exact z
        · exact f j j0 (by omega))
      exact (show p + 1 + ((i + 1 : Nat) : Int) = p + 1 + (i : Int) + 1 by omega) ▸ this
    · rw [w0]
      exact ⟨fun _ => kk _ ⟨⟨by omega, by omega⟩, f, Or.inr z⟩, fun c => absurd rfl c⟩
theorem k_numberOf (hT : TC g T) (p0 : 0 ≤ p) (p1 : p < e) (e1 : e ≤ 400) (kk : K (.inl (vI (numV T p (e - p).toNat))) (stt g)) : Ct Γ l (d + 1) b yX10_numberOf mX10_numberOf [vR 3, vI p, vI e] (stt g) K := by
  apply wpX10_numberOf IA3
  have key := up_loop (P := fun i => AW Γ l mX10_numberOf (d + 1) b 5 [vR 3, vI p, vI e, vI (numV T p i), vI (p + (i : Int))] [] (stt g) K) (N := (e - p).toNat) ?_ (fun i hi9 hi => ?_) 0 (Nat.zero_le _)
  · rw [show p + ((0 : Nat) : Int) = p by omega] at key
    exact key
  · apply wpX10_numberOf_5 IA3
    rw [wr_id (x := e) (by omega) (by omega), wr_id (x := p + ((e - p).toNat : Int)) (by omega) (by omega)]
    exact ⟨fun _ => kk, fun c => absurd (show e ≤ p + ((e - p).toNat : Int) by omega) c⟩
  · have hc := hT.c (i := p + (i : Int)) (by omega) (by omega)
    apply wpX10_numberOf_5 IA3
    rw [wr_id (x := e) (by omega) (by omega), wr_id (x := p + (i : Int)) (by omega) (by omega), hc.1]
    refine ⟨fun c => absurd c (by omega), fun _ => ?_⟩
    exact (show p + ((i + 1 : Nat) : Int) = p + (i : Int) + 1 by omega) ▸ hi
theorem k_spells {t : Int} (ht : SS t) (hT : TC g T) (p0 : 0 ≤ p) (p1 : p < e) (e1 : e ≤ 400) (k1 : ssB t = sbt T p e → K (.inl (vI 1)) (stt g)) (k0 : ssB t ≠ sbt T p e → K (.inl (vI 0)) (stt g)) : Ct Γ l (d + 4) b yX10_spells mX10_spells [vR t, vR 3, vI p, vI e] (stt g) K := by
  have hs := (ssB_ok ht).1
  have hl : ssL t = ((ssB t).length : Int) := rfl
  have hif := sbt_iff (T := T) (p := p) (e := e) (q := ssB t) (by omega)
  apply wpX10_spells ht IA3
  rw [wr_id (x := ssL t) (by omega) (by omega), wr_id (x := e - p) (by omega) (by omega)]
  refine ⟨fun c => ?_, fun c => k0 (fun z => c (by have := (hif.mp z).1; omega))⟩
  refine up_loop (P := fun i => (∀ k : Nat, k < i → (ssB t).getD k 0 = T (p + k)) → AW Γ l mX10_spells (d + 4) b 15 [vR t, vR 3, vI p, vI e, vI (i : Int)] [] (stt g) K) (N := (ssB t).length) (fun f => ?_) (fun i hi9 hi f => ?_) 0 (Nat.zero_le _) (fun k hk => absurd hk (by omega))
  · apply wpX10_spells_15 ht IA3
    rw [wr_id (x := ssL t) (by omega) (by omega), wr_id (x := ((ssB t).length : Int)) (by omega) (by omega)]
    exact ⟨fun _ => k1 (hif.mpr ⟨by omega, f⟩), fun c => absurd (Int.le_of_eq hl) c⟩
  · have hc := hT.c (i := p + (i : Int)) (by omega) (by omega)
    have ha := ssB_at ht i
    apply wpX10_spells_15 ht IA3
    rw [wr_id (x := ssL t) (by omega) (by omega), wr_id (x := (i : Int)) (by omega) (by omega), hc.1, hc.2.1, Int.toNat_natCast, wr_id (x := (ssB t).getD i 0) (by omega) (by omega)]
    refine ⟨fun c => absurd c (by omega), fun _ => ⟨by omega, fun c => hi (fun k hk => ?_), fun c => k0 (fun z => c ((hif.mp z).2 i hi9))⟩⟩
    by_cases x : k = i
    · rw [x]; exact c
    · exact f k (by omega)
theorem k_signOf (hT : TC g T) (p0 : 0 ≤ p) (p1 : p < e) (e1 : e ≤ 400) (kk : ∀ s, SG s → SGN T p e s → K (.inl (vR s)) (stt g)) : Ct Γ l (d + 5) b yX10_signOf mX10_signOf [vR 3, vI p, vI e] (stt g) K := by
  have w0 : wr 0 = 0 := by decide +kernel
  have w1 : wr 1 = 1 := by decide +kernel
  have hc := hT.c (i := p) (by omega) (by omega)
  apply wpX10_signOf IA3
  rw [hc.1]
  refine k_isDigit hc.2.1 (fun a => bI_in ?_) (fun a => bI_in ?_)
  · rw [w1, wr_id (x := e - p) (by omega) (by omega)]
    refine ⟨fun c => absurd c (by decide), fun _ => ⟨fun c => kk _ ⟨by decide, by decide⟩ ⟨fun _ => by rw [if_neg (by omega)], fun z => absurd a z⟩, fun c => kk _ ⟨by decide, by decide⟩ ⟨fun _ => by rw [if_pos (by omega)], fun z => absurd a z⟩⟩⟩
  · rw [w0]
    refine ⟨fun _ => ?_, fun c => absurd rfl c⟩
    refine up_loop (P := fun i => (∀ k : Nat, k < i → ssB (sgS (1000 + k)) ≠ sbt T p e) → ∀ y6, AW Γ l mX10_signOf (d + 5) b 39 [vR 3, vI p, vI e, vR 1040, vI 39, vI (i : Int), y6] [] (stt g) K) (N := 39) (fun f y6 => ?_) (fun i hi9 hi f y6 => ?_) 0 (Nat.zero_le _) (fun k hk => absurd hk (by omega)) vU
    · refine AW.weak (L' := [vR 3, vI p, vI e, vR 1040, vI 39, vI ((39 : Nat) : Int), vU]) ?_ (by simp [leP])
      apply wpX10_signOf_39 IA3
      exact ⟨fun _ => kk _ ⟨by decide, by decide⟩ ⟨fun z => absurd z a, fun _ => Or.inr ⟨rfl, fun k hk => f k (by omega)⟩⟩, fun c => absurd (show wr 39 ≤ wr ((39 : Nat) : Int) by decide +kernel) c⟩
    · refine AW.weak (L' := [vR 3, vI p, vI e, vR 1040, vI 39, vI (i : Int), vU]) ?_ (by simp [leP])
      apply wpX10_signOf_39 IA3
      rw [wr_id (x := (i : Int)) (by omega) (by omega), show wr 39 = 39 by decide +kernel]
      have sk := sgS_ok hi9
      refine ⟨fun c => absurd c (by omega), fun _ => ⟨by omega, ⟨by omega, by omega⟩, k_spells sk.1 hT p0 p1 e1 (fun z => bI_in ?_) (fun z => bI_in ?_)⟩⟩
      · rw [w1]
        refine ⟨fun c => absurd c (by decide), fun _ => kk _ ⟨by omega, by omega⟩ ⟨fun z => absurd z a, fun _ => Or.inl ⟨i, ?_, rfl, z⟩⟩⟩
        by_cases c : 36 ≤ i
        · rw [sk.2 c] at z
          have := sbt_len (T := T) (p := p) (e := e) (by omega)
          rw [← z] at this
          simp only [List.length_nil] at this
          omega
        · omega
      · rw [w0]
        refine ⟨fun _ => hi (fun k hk => ?_) _, fun c => absurd rfl c⟩
        by_cases x : k = i
        · rw [x]; exact z
        · exact f k (by omega)
end SC
