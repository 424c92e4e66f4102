/-! BITS of small sets -/
def bt (s p : Int) : Prop := s.toNat.testBit p.toNat = true
theorem small_all {P : Nat → Nat → Bool} {n m : Nat} (h : (List.range n).all (fun s => (List.range m).all (fun p => P s p)) = true) {s p : Nat} (hs : s < n) (hp : p < m) : P s p = true :=
  List.all_eq_true.mp (List.all_eq_true.mp h s (List.mem_range.mpr hs)) p (List.mem_range.mpr hp)
theorem shl_1 {p : Int} (p0 : 0 ≤ p) (p1 : p < 12) : iShl 1 p = ((2 ^ p.toNat : Nat) : Int) := by
  have h : (List.range 12).all (fun p => decide (iShl 1 (p : Int) = ((2 ^ p : Nat) : Int))) = true := by decide +kernel
  have := List.all_eq_true.mp h p.toNat (List.mem_range.mpr (by omega))
  rw [decide_eq_true_iff] at this
  rw [Int.toNat_of_nonneg p0] at this
  exact this
/-- a bit as it is asked for -/
theorem bit_ask {s p : Int} (s0 : 0 ≤ s) (s1 : s < 64) (p0 : 0 ≤ p) (p1 : p < 6) : (iAnd (iShr s p) 1 = 1 ↔ bt s p) ∧ (iAnd (iShr s p) 1 = 0 ↔ ¬ bt s p) := by
  have h := small_all (P := fun s p => decide ((iAnd (iShr (s : Int) (p : Int)) 1 = 1 ↔ s.testBit p = true) ∧ (iAnd (iShr (s : Int) (p : Int)) 1 = 0 ↔ ¬ s.testBit p = true))) (n := 64) (m := 6) (by decide +kernel) (s := s.toNat) (p := p.toNat) (by omega) (by omega)
  rw [decide_eq_true_iff, Int.toNat_of_nonneg p0, Int.toNat_of_nonneg s0] at h
  exact h
theorem sub_ask {s t : Int} (s0 : 0 ≤ s) (s1 : s < 64) (t0 : 0 ≤ t) (t1 : t < 64) : (iAnd s (iXor t (-1)) = 0 ↔ ∀ p, 0 ≤ p → p < 6 → bt s p → bt t p) ∧ (iAnd s (iXor t (-1)) = 0 → s ≤ t ∧ iBC s ≤ iBC t ∧ (iBC s = iBC t → s = t)) ∧ (0 ≤ iAnd s (iXor t (-1)) ∧ iAnd s (iXor t (-1)) < 64) ∧ (∀ p, 0 ≤ p → p < 6 → (bt (iAnd s (iXor t (-1))) p ↔ bt s p ∧ ¬ bt t p)) := by
  have h := small_all (P := fun s t => decide (iAnd (s : Int) (iXor (t : Int) (-1)) = 0 ↔ ((List.range 6).all fun p => !s.testBit p || t.testBit p) = true) && decide (iAnd (s : Int) (iXor (t : Int) (-1)) = 0 → (s : Int) ≤ t ∧ iBC s ≤ iBC t ∧ (iBC s = iBC t → (s : Int) = t)) && decide (0 ≤ iAnd (s : Int) (iXor (t : Int) (-1)) ∧ iAnd (s : Int) (iXor (t : Int) (-1)) < 64) && ((List.range 6).all fun p => (iAnd (s : Int) (iXor (t : Int) (-1))).toNat.testBit p == (s.testBit p && !t.testBit p))) (n := 64) (m := 64) (by decide +kernel) (s := s.toNat) (p := t.toNat) (by omega) (by omega)
  simp only [Bool.and_eq_true, decide_eq_true_iff, Int.toNat_of_nonneg s0, Int.toNat_of_nonneg t0] at h
  obtain ⟨⟨⟨h1, h2⟩, h3⟩, h4⟩ := h
  refine ⟨?_, h2, h3, fun p p0 p1 => ?_⟩
  · rw [h1, List.all_eq_true]
    refine ⟨fun a p p0 p1 b => ?_, fun a p hp => ?_⟩
    · have := a p.toNat (List.mem_range.mpr (by omega))
      unfold bt at b ⊢
      rw [b] at this
      simpa using this
    · have hp := List.mem_range.mp hp
      have := a p (by omega) (by omega)
      unfold bt at this
      rw [Int.toNat_natCast] at this
      cases e : s.toNat.testBit p with
      | false => rfl
      | true => rw [this e]; rfl
  · have := List.all_eq_true.mp h4 p.toNat (List.mem_range.mpr (by omega))
    rw [beq_iff_eq] at this
    unfold bt
    rw [this, Bool.and_eq_true, Bool.not_eq_true', Bool.not_eq_true]
theorem and_ask {s t : Int} (s0 : 0 ≤ s) (s1 : s < 64) (t0 : 0 ≤ t) (t1 : t < 64) : (0 ≤ iAnd s t ∧ iAnd s t < 64) ∧ (iAnd s t = 0 ↔ ∀ p, 0 ≤ p → p < 6 → ¬ (bt s p ∧ bt t p)) := by
  rw [iAnd_nat s0 (by omega) t0 (by omega)]
  have hl : s.toNat &&& t.toNat < 64 := Nat.lt_of_le_of_lt Nat.and_le_left (by omega)
  refine ⟨by omega, fun h p p0 p1 hb => ?_, fun h => ?_⟩
  · have e : s.toNat &&& t.toNat = 0 := by omega
    have : (s.toNat &&& t.toNat).testBit p.toNat = true := by
      rw [Nat.testBit_and, Bool.and_eq_true]
      exact hb
    rw [e, Nat.zero_testBit] at this
    cases this
  · have : s.toNat &&& t.toNat = 0 := by
      apply Nat.eq_of_testBit_eq
      intro i
      rw [Nat.zero_testBit]
      by_cases hi : i < 6
      · have := h i (by omega) (by omega)
        unfold bt at this
        rw [Int.toNat_natCast, ← Bool.and_eq_true, ← Nat.testBit_and] at this
        simpa using this
      · exact Nat.testBit_lt_two_pow (Nat.lt_of_lt_of_le hl (Nat.pow_le_pow_right (n := 2) (by decide) (show 6 ≤ i by omega)))
    omega
theorem bit_or {s p q : Int} (s0 : 0 ≤ s) (s1 : s < 64) (p0 : 0 ≤ p) (p1 : p < 6) (q0 : 0 ≤ q) (q1 : q < 6) : (0 ≤ iOr s (iShl 1 p) ∧ iOr s (iShl 1 p) < 64) ∧ (bt (iOr s (iShl 1 p)) q ↔ bt s q ∨ q = p) := by
  have h := small_all (P := fun s p => decide (0 ≤ iOr (s : Int) (iShl 1 (p : Int)) ∧ iOr (s : Int) (iShl 1 (p : Int)) < 64) && (List.range 6).all (fun q => (iOr (s : Int) (iShl 1 (p : Int))).toNat.testBit q == (s.testBit q || q == p))) (n := 64) (m := 6) (by decide +kernel) (s := s.toNat) (p := p.toNat) (by omega) (by omega)
  rw [Bool.and_eq_true, decide_eq_true_iff, Int.toNat_of_nonneg p0, Int.toNat_of_nonneg s0] at h
  refine ⟨h.1, ?_⟩
  have := List.all_eq_true.mp h.2 q.toNat (List.mem_range.mpr (by omega))
  rw [beq_iff_eq] at this
  unfold bt
  rw [this, Bool.or_eq_true, beq_iff_eq]
  exact or_congr Iff.rfl ⟨fun h => by omega, fun h => by omega⟩
/-- bits that are gathered one by one -/
theorem bit_fd {P : Int → Prop} [DecidablePred P] : ∀ {n : Nat}, n ≤ 6 → (0 ≤ fd (fun b p => if P p then iOr b (iShl 1 p) else b) 0 n ∧ fd (fun b p => if P p then iOr b (iShl 1 p) else b) 0 n < 64) ∧ ∀ q, 0 ≤ q → q < 6 → (bt (fd (fun b p => if P p then iOr b (iShl 1 p) else b) 0 n) q ↔ q < (n : Int) ∧ P q)
  | 0, _ => by
    refine ⟨⟨show (0 : Int) ≤ 0 by decide, show (0 : Int) < 64 by decide⟩, fun q q0 q1 => ⟨fun h => ?_, fun h => ?_⟩⟩
    · have h : (0 : Nat).testBit q.toNat = true := h
      rw [Nat.zero_testBit] at h
      cases h
    · have := h.1
      omega
  | n + 1, hn => by
    have ih := bit_fd (P := P) (n := n) (by omega)
    have e : fd (fun b p => if P p then iOr b (iShl 1 p) else b) 0 (n + 1) = if P n then iOr (fd (fun b p => if P p then iOr b (iShl 1 p) else b) 0 n) (iShl 1 n) else fd (fun b p => if P p then iOr b (iShl 1 p) else b) 0 n := rfl
    rw [e]
    generalize fd (fun b p => if P p then iOr b (iShl 1 p) else b) 0 n = x at ih ⊢
    by_cases z : P n
    · rw [if_pos z]
      refine ⟨(bit_or (q := 0) ih.1.1 ih.1.2 (by omega) (by omega) (by decide) (by decide)).1, fun q q0 q1 => ?_⟩
      rw [(bit_or ih.1.1 ih.1.2 (by omega) (by omega) q0 q1).2, ih.2 q q0 q1]
      refine ⟨fun h => ?_, fun h => ?_⟩
      · rcases h with h | h
        · exact ⟨by omega, h.2⟩
        · rw [h]; exact ⟨by omega, z⟩
      · by_cases c : q = n
        · exact Or.inr c
        · exact Or.inl ⟨by omega, h.2⟩
    · rw [if_neg z]
      refine ⟨ih.1, fun q q0 q1 => ?_⟩
      rw [ih.2 q q0 q1]
      refine ⟨fun h => ⟨by omega, h.2⟩, fun h => ⟨?_, h.2⟩⟩
      have : q ≠ n := fun c => z (c ▸ h.2)
      omega
theorem btS_bt {V : VV} (hV : WF V) {s : Int} : (0 ≤ btS V s ∧ btS V s < 64) ∧ ∀ q, 0 ≤ q → q < 6 → (bt (btS V s) q ↔ q < V 0 ∧ zS V q = s) := by
  have h6 := hV.1.1
  have := bit_fd (P := fun p => zS V p = s) (n := (V 0).toNat) (by omega)
  rw [Int.toNat_of_nonneg h6.1] at this
  exact this
