/-! THE TEXT: what the reference passes are the class's signs -/
theorem sg_inj {i j : Nat} (hi : i < 36) (hj : j < 36) (h : ssB (sgS (1000 + i)) = ssB (sgS (1000 + j))) : i = j := by
  have k := List.all_eq_true.mp (List.all_eq_true.mp (show (List.range 36).all (fun i => (List.range 36).all (fun j => decide (stByt (sgStr i) = stByt (sgStr j) → i = j))) = true by decide +kernel) i (List.mem_range.mpr hi)) j (List.mem_range.mpr hj)
  refine of_decide_eq_true k ?_
  unfold sgS ssB at h
  rw [show (1000 + (i : Int) - 1000).toNat = i by omega, show (1000 + (j : Int) - 1000).toNat = j by omega, show (2000 + (sgStr i : Int) - 2000).toNat = sgStr i by omega, show (2000 + (sgStr j : Int) - 2000).toNat = sgStr j by omega] at h
  exact h
/-- a word of letters: what is not empty and begins with one -/
theorem sg_let {i : Nat} (hi : i < 30) : 0 < (ssB (sgS (1000 + i))).length ∧ 97 ≤ (ssB (sgS (1000 + i))).getD 0 0 ∧ (ssB (sgS (1000 + i))).getD 0 0 ≤ 122 := by
  have k := of_decide_eq_true (List.all_eq_true.mp (show (List.range 30).all (fun i => decide (0 < (stByt (sgStr i)).length ∧ 97 ≤ (stByt (sgStr i)).getD 0 0 ∧ (stByt (sgStr i)).getD 0 0 ≤ 122)) = true by decide +kernel) i (List.mem_range.mpr hi))
  unfold sgS ssB
  rw [show (1000 + (i : Int) - 1000).toNat = i by omega, show (2000 + (sgStr i : Int) - 2000).toNat = sgStr i by omega]
  exact k
theorem TS.p {T : Int → Int} {L n : Int} {S P N : Int → Int} (h : TS T L n S P N) {a : Int} (a0 : 0 ≤ a) (a1 : a ≤ n) : 0 ≤ P a ∧ P a ≤ L ∧ (a < n → P a < L) ∧ (P a < L → a < n) := by
  have hn := h.1
  by_cases c : a = n
  · rw [c, hn.2.2]
    exact ⟨by omega, by omega, fun z => by omega, fun z => by omega⟩
  · have := (h.2.1 a a0 (by omega)).1
    exact ⟨by omega, by omega, fun z => by omega, fun z => by omega⟩
theorem TS.nxt {T : Int → Int} {L n : Int} {S P N : Int → Int} (h : TS T L n S P N) {a e : Int} (a0 : 0 ≤ a) (a1 : a < n) (he : EN T L (P a) e) : NX T L e (P (a + 1)) := by
  obtain ⟨e1, h1, h2⟩ := h.2.2 (a + 1) (by omega) (by omega)
  rcases h1 with h1 | ⟨_, h1⟩
  · omega
  · rw [show a + 1 - 1 = a by omega] at h1
    rw [he.one h1]
    exact h2
theorem TS.end {T : Int → Int} {L n : Int} {S P N : Int → Int} (h : TS T L n S P N) {a : Int} (a0 : 0 ≤ a) (a1 : a ≤ n) : S a = 1037 ↔ a = n := by
  constructor
  · intro z
    by_cases c : a = n
    · exact c
    · obtain ⟨e, _, h2, _⟩ := (h.2.1 a a0 (by omega)).2
      exact absurd z h2.sg.2
  · intro z
    rw [z]
    exact h.1.2.1
theorem numV_rng {T : Int → Int} {p : Int} {k : Nat} (hk : k ≤ 3) (hd : ∀ j : Nat, j < k → dgt T (p + j)) : 0 ≤ numV T p k ∧ numV T p k ≤ 999 := by
  have h0 := hd 0
  have h1 := hd 1
  have h2 := hd 2
  unfold dgt at h0 h1 h2
  have e : k = 0 ∨ k = 1 ∨ k = 2 ∨ k = 3 := by omega
  unfold numV
  rcases e with rfl | rfl | rfl | rfl
  · exact ⟨Int.le_refl 0, show (0 : Int) ≤ 999 by decide⟩
  · have := h0 (by decide)
    show 0 ≤ 0 * 10 + T (p + ((0 : Nat) : Int)) - 48 ∧ 0 * 10 + T (p + ((0 : Nat) : Int)) - 48 ≤ 999
    omega
  · have := h0 (by decide)
    have := h1 (by decide)
    show 0 ≤ (0 * 10 + T (p + ((0 : Nat) : Int)) - 48) * 10 + T (p + ((1 : Nat) : Int)) - 48 ∧ (0 * 10 + T (p + ((0 : Nat) : Int)) - 48) * 10 + T (p + ((1 : Nat) : Int)) - 48 ≤ 999
    omega
  · have := h0 (by decide)
    have := h1 (by decide)
    have := h2 (by decide)
    show 0 ≤ ((0 * 10 + T (p + ((0 : Nat) : Int)) - 48) * 10 + T (p + ((1 : Nat) : Int)) - 48) * 10 + T (p + ((2 : Nat) : Int)) - 48 ∧ ((0 * 10 + T (p + ((0 : Nat) : Int)) - 48) * 10 + T (p + ((1 : Nat) : Int)) - 48) * 10 + T (p + ((2 : Nat) : Int)) - 48 ≤ 999
    omega
/-- a number's sign -/
theorem TS.num {T : Int → Int} {L n : Int} {S P N : Int → Int} (h : TS T L n S P N) {a : Int} (a0 : 0 ≤ a) (a1 : a ≤ n) (hs : S a = 1036) : a < n ∧ ∃ e, EN T L (P a) e ∧ dgt T (P a) ∧ e - P a ≤ 3 ∧ N a = numV T (P a) (e - P a).toNat ∧ 0 ≤ N a ∧ N a ≤ 999 := by
  have an : a ≠ n := fun z => by
    rw [z, h.1.2.1] at hs
    exact absurd hs (by decide)
  obtain ⟨e, he, h2, h3⟩ := (h.2.1 a a0 (by omega)).2
  have dd : dgt T (P a) := by
    by_cases c : dgt T (P a)
    · exact c
    · rcases h2.2 c with ⟨i, i1, i2, _⟩ | ⟨z, _⟩
      · omega
      · omega
  have s2 := h2.1 dd
  have e3 : e - P a ≤ 3 := by
    by_cases c : e - P a ≤ 3
    · exact c
    · rw [if_neg c] at s2; omega
  refine ⟨by omega, e, he, dd, e3, h3 dd, ?_⟩
  rw [h3 dd]
  exact numV_rng (by omega) fun j hj => (he.dig dd).1 _ (by omega) (by omega)
theorem word_iff {T : Int → Int} {L n : Int} {S P N : Int → Int} (h : TS T L n S P N) {a r t : Int} {i : Nat} (a0 : 0 ≤ a) (a1 : a ≤ n) (hr : LE T L (P a) r) (hi : i < 30) (ht : ssB t = ssB (sgS (1000 + i))) : ssB t = sbt T (P a) r ↔ S a = 1000 + i := by
  have hl := sg_let hi
  have hp := h.p a0 a1
  rw [ht]
  by_cases c : P a < L ∧ 97 ≤ T (P a) ∧ T (P a) ≤ 122
  · have he := hr.1 c
    obtain ⟨e, e1, e2, e3⟩ := (h.2.1 a a0 (by omega)).2
    rw [e1.one he] at e2
    have nd : ¬ dgt T (P a) := by unfold dgt; omega
    constructor
    · intro z
      rcases e2.2 nd with ⟨j, j1, j2, j3⟩ | ⟨_, w⟩
      · rw [j2, ← z] at j3
        rw [j2, sg_inj j1 (by omega) j3]
      · exact absurd z (w i (by omega))
    · intro z
      rcases e2.2 nd with ⟨j, j1, j2, j3⟩ | ⟨w, _⟩
      · rw [z] at j3
        exact j3
      · omega
  · have z := hr.2 c
    rw [z]
    constructor
    · intro w
      have := sbt_len (T := T) (p := P a) (e := P a) (Int.le_refl _)
      rw [← w] at this
      omega
    · intro w
      exfalso
      have an : a ≠ n := fun q => by
        have := h.1.2.1
        rw [q] at w
        omega
      obtain ⟨e, e1, e2, e3⟩ := (h.2.1 a a0 (by omega)).2
      by_cases d : dgt T (P a)
      · have := e2.1 d
        omega
      · rcases e2.2 d with ⟨j, j1, j2, j3⟩ | ⟨w2, _⟩
        · rw [w] at j3
          have f := ((sbt_iff (T := T) (p := P a) (e := e) (by have := e1.1; omega)).mp j3).2 0 hl.1
          rw [show P a + ((0 : Nat) : Int) = P a by omega] at f
          exact c ⟨hp.2.2.1 (by omega), by omega, by omega⟩
        · omega
theorem word_nx {T : Int → Int} {L n : Int} {S P N : Int → Int} (h : TS T L n S P N) {a r : Int} {i : Nat} (a0 : 0 ≤ a) (a1 : a ≤ n) (hr : LE T L (P a) r) (hi : i < 30) (hs : S a = 1000 + i) : a < n ∧ P a < r ∧ NX T L r (P (a + 1)) := by
  have an : a ≠ n := fun q => by
    have := h.1.2.1
    rw [q] at hs
    omega
  have hp := h.p a0 a1
  have hl := sg_let hi
  obtain ⟨e, e1, e2, e3⟩ := (h.2.1 a a0 (by omega)).2
  have c : P a < L ∧ 97 ≤ T (P a) ∧ T (P a) ≤ 122 := by
    by_cases d : dgt T (P a)
    · have := e2.1 d
      omega
    · rcases e2.2 d with ⟨j, j1, j2, j3⟩ | ⟨w2, _⟩
      · rw [hs] at j3
        have f := ((sbt_iff (T := T) (p := P a) (e := e) (by have := e1.1; omega)).mp j3).2 0 hl.1
        rw [show P a + ((0 : Nat) : Int) = P a by omega] at f
        exact ⟨hp.2.2.1 (by omega), by omega, by omega⟩
      · omega
  have he := hr.1 c
  exact ⟨by omega, he.1.1, h.nxt a0 (by omega) he⟩
/-- a mark -/
theorem mark_iff {T : Int → Int} {L n : Int} {S P N : Int → Int} (h : TS T L n S P N) {a c : Int} {i : Nat} (a0 : 0 ≤ a) (a1 : a ≤ n) (hi : i < 36) (hc : ssB (sgS (1000 + i)) = [c]) (cl : c < 97) (cd : c < 48 ∨ 57 < c) : (P a < L ∧ T (P a) = c) ↔ S a = 1000 + i := by
  have hp := h.p a0 a1
  have hb := sbt_iff (T := T) (p := P a) (e := P a + 1) (q := [c]) (by omega)
  constructor
  · intro z
    obtain ⟨e, e1, e2, e3⟩ := (h.2.1 a a0 (by omega)).2
    have d : ¬ dgt T (P a) := by unfold dgt; omega
    have ee : e = P a + 1 := by
      by_cases q : P a + 1 < e
      · have w := e1.2.1 (P a + 1) (by omega) q
        unfold gO gop at w
        rw [show P a + 1 - 1 = P a by omega] at w
        omega
      · have := e1.1
        omega
    have q : [c] = sbt T (P a) (P a + 1) := hb.mpr ⟨by simp only [List.length_cons, List.length_nil]; omega, fun k hk => by
      have : k = 0 := by simp only [List.length_cons, List.length_nil] at hk; omega
      rw [this, show P a + ((0 : Nat) : Int) = P a by omega]
      exact z.2.symm⟩
    rw [ee] at e2
    rcases e2.2 d with ⟨j, j1, j2, j3⟩ | ⟨_, w⟩
    · rw [j2, ← q, ← hc] at j3
      rw [j2, sg_inj j1 hi j3]
    · exact absurd (hc.trans q) (w i hi)
  · intro z
    have an : a ≠ n := fun q => by
      have := h.1.2.1
      rw [q] at z
      omega
    obtain ⟨e, e1, e2, e3⟩ := (h.2.1 a a0 (by omega)).2
    refine ⟨hp.2.2.1 (by omega), ?_⟩
    by_cases d : dgt T (P a)
    · have := e2.1 d
      omega
    · rcases e2.2 d with ⟨j, j1, j2, j3⟩ | ⟨w2, _⟩
      · rw [z, hc] at j3
        have f := ((sbt_iff (T := T) (p := P a) (e := e) (by have := e1.1; omega)).mp j3).2 0 Nat.zero_lt_one
        rw [show P a + ((0 : Nat) : Int) = P a by omega] at f
        exact f.symm
      · omega
theorem mark_nx {T : Int → Int} {L n : Int} {S P N : Int → Int} (h : TS T L n S P N) {a c : Int} (a0 : 0 ≤ a) (a1 : a ≤ n) (z : P a < L ∧ T (P a) = c) (cl : c < 97) (cd : c < 48 ∨ 57 < c) : a < n ∧ NX T L (P a + 1) (P (a + 1)) := by
  have hp := h.p a0 a1
  refine ⟨hp.2.2.2 z.1, h.nxt a0 (hp.2.2.2 z.1) ⟨⟨by omega, by omega⟩, fun j j0 j1 => by omega, ?_⟩⟩
  by_cases q : P a + 1 = L
  · exact Or.inl q
  · refine Or.inr fun w => ?_
    unfold gO gop at w
    rw [show P a + 1 - 1 = P a by omega] at w
    omega
/-- the reference stands before sign a -/
def AT (g : GG) (T : Int → Int) (L n : Int) (P : Int → Int) (a : Int) : Prop := (0 ≤ a ∧ a ≤ n ∧ 0 ≤ g 171 10) ∧ NX T L (g 171 10) (P a)
theorem AT.self {g : GG} {T : Int → Int} {L n : Int} {S P N : Int → Int} (h : TS T L n S P N) {a : Int} (a0 : 0 ≤ a) (a1 : a ≤ n) (hg : g 171 10 = P a) : AT g T L n P a := by
  have hp := h.p a0 a1
  refine ⟨⟨a0, a1, by omega⟩, ?_⟩
  rw [hg]
  obtain ⟨e, _, h2⟩ := h.2.2 a a0 a1
  exact ⟨⟨Int.le_refl _, hp.2.1⟩, fun j j0 j1 => by omega, h2.2.2⟩
theorem LE.ex (T : Int → Int) (L p : Int) (h : p ≤ L) : ∃ r, LE T L p r ∧ p ≤ r ∧ r ≤ L := by
  by_cases c : p < L ∧ 97 ≤ T p ∧ T p ≤ 122
  · have key : ∀ k : Nat, ∀ q, p < q → q + k = L → (∀ j, p < j → j < q → gO T j) → ∃ e, EN T L p e := by
      intro k
      induction k with
      | zero => intro q q0 q1 q2; exact ⟨q, ⟨q0, by omega⟩, q2, Or.inl (by omega)⟩
      | succ k ih =>
        intro q q0 q1 q2
        by_cases z : gO T q
        · refine ih (q + 1) (by omega) (by omega) fun j j0 j1 => ?_
          by_cases e : j = q
          · rw [e]; exact z
          · exact q2 j j0 (by omega)
        · exact ⟨q, ⟨q0, by omega⟩, q2, Or.inr z⟩
    obtain ⟨e, he⟩ := key (L - p - 1).toNat (p + 1) (by omega) (by omega) (fun j j0 j1 => by omega)
    exact ⟨e, ⟨fun _ => he, fun z => absurd c z⟩, by have := he.1; omega, he.1.2⟩
  · exact ⟨p, ⟨fun z => absurd z c, fun _ => rfl⟩, Int.le_refl _, h⟩
