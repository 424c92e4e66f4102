/-! PEOPLE TWO BY TWO: sets, what is the most, and the ways to it -/
def rmS (s p : Int) : Int := iAnd s (iXor (iShl 1 p) (-1))
theorem rm_ok {s p : Int} (s0 : 0 ≤ s) (s1 : s < 64) (p0 : 0 ≤ p) (p1 : p < 6) : (0 ≤ rmS s p ∧ rmS s p < 64) ∧ (∀ q, 0 ≤ q → q < 6 → (bt (rmS s p) q ↔ bt s q ∧ q ≠ p)) ∧ (bt s p → rmS s p < s) ∧ rmS s p ≤ s := by
  have h := small_all (P := fun s p => decide (0 ≤ rmS (s : Int) (p : Int) ∧ rmS (s : Int) (p : Int) < 64) && (List.range 6).all (fun q => (rmS (s : Int) (p : Int)).toNat.testBit q == (s.testBit q && !(q == p))) && decide (s.testBit p = true → rmS (s : Int) (p : Int) < s) && decide (rmS (s : Int) (p : Int) ≤ s)) (n := 64) (m := 6) (by decide +kernel) (s := s.toNat) (p := p.toNat) (by omega) (by omega)
  simp only [Bool.and_eq_true, decide_eq_true_iff, Int.toNat_of_nonneg p0, Int.toNat_of_nonneg s0] at h
  obtain ⟨⟨⟨h1, h2⟩, h3⟩, h4⟩ := h
  refine ⟨h1, fun q q0 q1 => ?_, h3, h4⟩
  have := List.all_eq_true.mp h2 q.toNat (List.mem_range.mpr (by omega))
  rw [beq_iff_eq] at this
  unfold bt
  rw [this, Bool.and_eq_true, Bool.not_eq_true', beq_eq_false_iff_ne]
  exact and_congr Iff.rfl ⟨fun h e => h (by rw [e]), fun h e => h (by omega)⟩
theorem set_ext {s t : Int} (s0 : 0 ≤ s) (s1 : s < 64) (t0 : 0 ≤ t) (t1 : t < 64) (h : ∀ q, 0 ≤ q → q < 6 → (bt s q ↔ bt t q)) : s = t := by
  have : s.toNat = t.toNat := by
    apply Nat.eq_of_testBit_eq
    intro i
    by_cases hi : i < 6
    · have := h i (by omega) (by omega)
      unfold bt at this
      rw [Int.toNat_natCast] at this
      exact Bool.eq_iff_iff.mpr this
    · have big : ∀ x : Nat, x < 64 → x.testBit i = false := fun x hx => Nat.testBit_lt_two_pow (Nat.lt_of_lt_of_le (show x < 2 ^ 6 by omega) (Nat.pow_le_pow_right (n := 2) (by decide) (show 6 ≤ i by omega)))
      rw [big _ (by omega), big _ (by omega)]
  omega
/-- all of the first n -/
def pwS (n : Int) : Int := iShl 1 n
theorem pw_ok {n : Int} (n0 : 0 ≤ n) (n1 : n ≤ 6) : (1 ≤ pwS n ∧ pwS n ≤ 64) ∧ (∀ q, 0 ≤ q → q < 6 → (bt (pwS n - 1) q ↔ q < n)) ∧ ∀ s, 0 ≤ s → s < 64 → (∀ q, 0 ≤ q → q < 6 → bt s q → q < n) → s < pwS n := by
  have h := fun (p : Nat) (hp : p < 64) => small_all (P := fun n s => decide (1 ≤ pwS (n : Int) ∧ pwS (n : Int) ≤ 64) && (List.range 6).all (fun q => (pwS (n : Int) - 1).toNat.testBit q == decide (q < n)) && (!((List.range 6).all (fun q => !(s.testBit q) || decide (q < n))) || decide ((s : Int) < pwS (n : Int)))) (n := 7) (m := 64) (by decide +kernel) (s := n.toNat) (p := p) (by omega) hp
  have h0 := h 0 (by omega)
  simp only [Bool.and_eq_true, decide_eq_true_iff, Int.toNat_of_nonneg n0] at h0
  refine ⟨h0.1.1, fun q q0 q1 => ?_, fun s s0 s1 hq => ?_⟩
  · have := List.all_eq_true.mp h0.1.2 q.toNat (List.mem_range.mpr (by omega))
    rw [beq_iff_eq] at this
    unfold bt
    rw [this, decide_eq_true_iff]
    omega
  · have h2 := h s.toNat (by omega)
    simp only [Bool.and_eq_true, Bool.or_eq_true, decide_eq_true_iff, Int.toNat_of_nonneg n0, Int.toNat_of_nonneg s0] at h2
    rcases h2.2 with e | e
    · exfalso
      rw [Bool.not_eq_true', ← Bool.not_eq_true] at e
      apply e
      rw [List.all_eq_true]
      intro q hq2
      have := hq q (by omega) (by have := List.mem_range.mp hq2; omega)
      unfold bt at this
      rw [Int.toNat_natCast] at this
      cases c : s.toNat.testBit q with
      | false => rfl
      | true =>
        have := this c
        simp
        omega
    · exact e
def chP (f : Int → Int → Int) (P : Int → Int) (s j : Int) : Int :=
  if j = -1 then P (rmS s (iNTZ s)) else if (rmS s (iNTZ s)).toNat.testBit j.toNat = true then f (iNTZ s) j + P (rmS (rmS s (iNTZ s)) j) else -1
def mxP (f : Int → Int → Int) (P : Int → Int) (n : Int) (s : Int) (k : Nat) : Int := fd (fun m j => iMax m (chP f P s (j - 1))) 0 k
def pdF (f : Int → Int → Int) (n : Int) : Nat → Int → Int
  | 0, _ => 0
  | k + 1, s => if s ≤ 0 then 0 else mxP f (pdF f n k) n s (n + 1).toNat
theorem ch_cg {f : Int → Int → Int} {P Q : Int → Int} {s j : Int} (s0 : 0 < s) (s1 : s < 64) (j0 : -1 ≤ j) (j1 : j < 6) (h : ∀ t, 0 ≤ t → t < s → P t = Q t) : chP f P s j = chP f Q s j := by
  have z := ntz_s s0 s1
  have r1 := rm_ok (s := s) (p := iNTZ s) (by omega) s1 z.1.1 z.1.2
  have r2 := r1.2.2.1 z.2.1
  unfold chP
  rw [h _ r1.1.1 r2]
  by_cases c : j = -1
  · rw [if_pos c, if_pos c]
  · have r3 := rm_ok (s := rmS s (iNTZ s)) (p := j) r1.1.1 r1.1.2 (by omega) j1
    rw [if_neg c, if_neg c, h _ r3.1.1 (by omega)]
theorem mx_cg {f : Int → Int → Int} {P Q : Int → Int} {n s : Int} (s0 : 0 < s) (s1 : s < 64) (h : ∀ t, 0 ≤ t → t < s → P t = Q t) {k : Nat} (hk : k ≤ 7) : mxP f P n s k = mxP f Q n s k :=
  fd_ext fun x i hi => by rw [ch_cg s0 s1 (by omega) (by omega) h]
theorem pdF_st (f : Int → Int → Int) {n : Int} (n1 : n ≤ 6) : ∀ {k k' : Nat} {s : Int}, s ≤ k → s ≤ k' → s < 64 → pdF f n k s = pdF f n k' s
  | 0, 0, _, _, _, _ => rfl
  | 0, k' + 1, s, h, _, _ => by
    show (0 : Int) = if s ≤ 0 then 0 else _
    rw [if_pos (by omega)]
  | k + 1, 0, s, _, h, _ => by
    show (if s ≤ 0 then 0 else _) = (0 : Int)
    rw [if_pos (by omega)]
  | k + 1, k' + 1, s, h, h', s1 => by
    show (if s ≤ 0 then 0 else mxP f (pdF f n k) n s (n + 1).toNat) = (if s ≤ 0 then 0 else mxP f (pdF f n k') n s (n + 1).toNat)
    by_cases c : s ≤ 0
    · rw [if_pos c, if_pos c]
    · rw [if_neg c, if_neg c]
      exact mx_cg (by omega) s1 (fun t t0 t1 => pdF_st f n1 (by omega) (by omega) (by omega)) (by omega)
/-- the most words that a set can have alike -/
def pdS (f : Int → Int → Int) (n s : Int) : Int := pdF f n s.toNat s
theorem pdS_0 (f : Int → Int → Int) (n : Int) : pdS f n 0 = 0 := rfl
theorem pdS_eq (f : Int → Int → Int) {n s : Int} (n1 : n ≤ 6) (s0 : 0 < s) (s1 : s < 64) : pdS f n s = mxP f (pdS f n) n s (n + 1).toNat := by
  unfold pdS
  obtain ⟨k, hk⟩ : ∃ k, s.toNat = k + 1 := ⟨s.toNat - 1, by omega⟩
  rw [hk]
  show (if s ≤ 0 then 0 else mxP f (pdF f n k) n s (n + 1).toNat) = _
  rw [if_neg (by omega)]
  exact mx_cg s0 s1 (fun t t0 t1 => pdF_st f n1 (by omega) (by omega) (by omega)) (by omega)
theorem fd_max {h : Int → Int} {N : Nat} (hb : ∀ i : Nat, i < N → -1 ≤ h i ∧ h i ≤ 2000) : ∀ k : Nat, k ≤ N → (0 ≤ fd (fun m j => iMax m (h j)) 0 k ∧ fd (fun m j => iMax m (h j)) 0 k ≤ 2000) ∧ (∀ i : Nat, i < k → h i ≤ fd (fun m j => iMax m (h j)) 0 k) ∧ (fd (fun m j => iMax m (h j)) 0 k = 0 ∨ ∃ i : Nat, i < k ∧ h i = fd (fun m j => iMax m (h j)) 0 k) := fun k => by
  induction k with
  | zero => exact fun _ => ⟨⟨show (0 : Int) ≤ 0 by decide, show (0 : Int) ≤ 2000 by decide⟩, fun i hi => absurd hi (by omega), Or.inl rfl⟩
  | succ k ih =>
    intro hk
    have ih := ih (by omega)
    have hbk := hb k (by omega)
    have e : fd (fun m j => iMax m (h j)) 0 (k + 1) = iMax (fd (fun m j => iMax m (h j)) 0 k) (h k) := rfl
    rw [e]
    generalize fd (fun m j => iMax m (h j)) 0 k = x at ih ⊢
    rw [iMax_id (by omega) (by omega) (by omega) (by omega)]
    obtain ⟨i1, i2, i3⟩ := ih
    by_cases c : x < h k
    · rw [if_pos c]
      refine ⟨by omega, fun i hi => ?_, Or.inr ⟨k, by omega, rfl⟩⟩
      by_cases q : i = k
      · rw [q]; exact Int.le_refl _
      · have := i2 i (by omega); omega
    · rw [if_neg c]
      refine ⟨i1, fun i hi => ?_, ?_⟩
      · by_cases q : i = k
        · rw [q]; omega
        · exact i2 i (by omega)
      · rcases i3 with e | ⟨i, hi, e⟩
        · exact Or.inl e
        · exact Or.inr ⟨i, by omega, e⟩
section PS
variable {f : Int → Int → Int} {n s : Int}
theorem pd_rng (hf : ∀ p q, 0 ≤ p → p < 6 → 0 ≤ q → q < 6 → 0 ≤ f p q ∧ f p q ≤ 12) (n0 : 0 ≤ n) (n1 : n ≤ 6) : ∀ k : Nat, ∀ s : Int, 0 ≤ s → s < 64 → s ≤ k → 0 ≤ pdS f n s ∧ pdS f n s ≤ 12 * s := fun k => by
  induction k with
  | zero =>
    intro s s0 _ s2
    rw [show s = 0 by omega, pdS_0]
    decide
  | succ k ih =>
    intro s s0 s1 s2
    by_cases c : s = 0
    · rw [c, pdS_0]; decide
    · rw [pdS_eq f n1 (by omega) s1]
      have z := ntz_s (s := s) (by omega) s1
      have r1 := rm_ok (s := s) (p := iNTZ s) (by omega) s1 z.1.1 z.1.2
      have r2 := r1.2.2.1 z.2.1
      have hch : ∀ j : Int, -1 ≤ j → j < 6 → -1 ≤ chP f (pdS f n) s j ∧ chP f (pdS f n) s j ≤ 12 * s := fun j j0 j1 => by
        unfold chP
        by_cases q : j = -1
        · have := ih _ r1.1.1 r1.1.2 (by omega)
          rw [if_pos q]; omega
        · rw [if_neg q]
          by_cases q2 : (rmS s (iNTZ s)).toNat.testBit j.toNat = true
          · have r3 := rm_ok (s := rmS s (iNTZ s)) (p := j) r1.1.1 r1.1.2 (by omega) j1
            have := ih _ r3.1.1 r3.1.2 (by omega)
            have := hf (iNTZ s) j z.1.1 z.1.2 (by omega) j1
            rw [if_pos q2]; omega
          · rw [if_neg q2]; omega
      have m := fd_max (h := fun j => chP f (pdS f n) s (j - 1)) (N := (n + 1).toNat) (fun i hi => by
        have := hch ((i : Int) - 1) (by omega) (by omega)
        omega) (n + 1).toNat (Nat.le_refl _)
      unfold mxP
      refine ⟨m.1.1, ?_⟩
      rcases m.2.2 with e | ⟨i, hi, e⟩
      · rw [e]; omega
      · rw [← e]
        exact (hch ((i : Int) - 1) (by omega) (by omega)).2
theorem pd_r (hf : ∀ p q, 0 ≤ p → p < 6 → 0 ≤ q → q < 6 → 0 ≤ f p q ∧ f p q ≤ 12) (n0 : 0 ≤ n) (n1 : n ≤ 6) (s0 : 0 ≤ s) (s1 : s < 64) : 0 ≤ pdS f n s ∧ pdS f n s ≤ 756 := by
  have := pd_rng hf n0 n1 63 s s0 s1 (by omega)
  omega
theorem ch_r (hf : ∀ p q, 0 ≤ p → p < 6 → 0 ≤ q → q < 6 → 0 ≤ f p q ∧ f p q ≤ 12) (n0 : 0 ≤ n) (n1 : n ≤ 6) (s0 : 0 < s) (s1 : s < 64) {j : Int} (j0 : -1 ≤ j) (j1 : j < 6) : -1 ≤ chP f (pdS f n) s j ∧ chP f (pdS f n) s j ≤ 768 := by
  have z := ntz_s s0 s1
  have r1 := rm_ok (s := s) (p := iNTZ s) (by omega) s1 z.1.1 z.1.2
  unfold chP
  by_cases q : j = -1
  · have := pd_r (s := rmS s (iNTZ s)) hf n0 n1 r1.1.1 r1.1.2
    rw [if_pos q]; omega
  · rw [if_neg q]
    by_cases q2 : (rmS s (iNTZ s)).toNat.testBit j.toNat = true
    · have r3 := rm_ok (s := rmS s (iNTZ s)) (p := j) r1.1.1 r1.1.2 (by omega) j1
      have := pd_r (s := rmS (rmS s (iNTZ s)) j) hf n0 n1 r3.1.1 r3.1.2
      have := hf (iNTZ s) j z.1.1 z.1.2 (by omega) j1
      rw [if_pos q2]; omega
    · rw [if_neg q2]; omega
/-- whom the first of a set goes with, -1: no one -/
def osP (f : Int → Int → Int) (n s : Int) : Int := lsr (fun j => decide (chP f (pdS f n) s (j - 1) = pdS f n s)) 0 (n + 1).toNat - 1
theorem os_ok (hf : ∀ p q, 0 ≤ p → p < 6 → 0 ≤ q → q < 6 → 0 ≤ f p q ∧ f p q ≤ 12) (n0 : 0 ≤ n) (n1 : n ≤ 6) (s0 : 0 < s) (s1 : s < 64) : (-1 ≤ osP f n s ∧ osP f n s < n) ∧ chP f (pdS f n) s (osP f n s) = pdS f n s ∧ (∀ j, -1 ≤ j → j < osP f n s → chP f (pdS f n) s j < pdS f n s) ∧ ∀ j, -1 ≤ j → j < n → chP f (pdS f n) s j ≤ pdS f n s := by
  have m := fd_max (h := fun j => chP f (pdS f n) s (j - 1)) (N := (n + 1).toNat) (fun i hi => by
    have := ch_r hf n0 n1 s0 s1 (j := (i : Int) - 1) (by omega) (by omega)
    omega) (n + 1).toNat (Nat.le_refl _)
  have e := pdS_eq f n1 s0 s1
  unfold mxP at e
  rw [← e] at m
  have c0 : 0 ≤ chP f (pdS f n) s ((0 : Nat) - 1) := by
    have z := ntz_s s0 s1
    have r1 := rm_ok (s := s) (p := iNTZ s) (by omega) s1 z.1.1 z.1.2
    have := pd_r (s := rmS s (iNTZ s)) hf n0 n1 r1.1.1 r1.1.2
    unfold chP
    rw [if_pos (by omega)]
    exact this.1
  have le : ∀ j, -1 ≤ j → j < n → chP f (pdS f n) s j ≤ pdS f n s := fun j j0 j1 => by
    have := m.2.1 (j + 1).toNat (by omega)
    rw [show ((j + 1).toNat : Int) - 1 = j by omega] at this
    exact this
  have ex : lsr (fun j => decide (chP f (pdS f n) s (j - 1) = pdS f n s)) 0 (n + 1).toNat ≠ -1 := fun c => by
    have hn := lsr_no.mp c
    rcases m.2.2 with z | ⟨i, hi, z⟩
    · have h0 := hn 0 (by omega) (by omega)
      rw [decide_eq_false_iff_not] at h0
      have := m.2.1 0 (by omega)
      omega
    · have h0 := hn i (by omega) (by omega)
      rw [decide_eq_false_iff_not] at h0
      exact h0 z
  have rg := lsr_rng (P := fun j => decide (chP f (pdS f n) s (j - 1) = pdS f n s)) (n := (n + 1).toNat) (i := 0)
  have at_ : ∀ {P : Int → Bool} {n i : Nat}, lsr P i n ≠ -1 → P (lsr P i n) = true ∧ ∀ j : Nat, i ≤ j → (j : Int) < lsr P i n → P j = false := by
    intro P n
    induction n with
    | zero => exact fun c => absurd rfl c
    | succ n ih =>
      intro i c
      have e : lsr P i (n + 1) = if P i = true then (i : Int) else lsr P (i + 1) n := rfl
      rw [e] at c ⊢
      by_cases q : P i = true
      · rw [if_pos q]; exact ⟨q, fun j h0 h1 => absurd h1 (by omega)⟩
      · rw [if_neg q] at c ⊢
        have := ih c
        refine ⟨this.1, fun j h0 h1 => ?_⟩
        by_cases z : j = i
        · rw [z]; exact Bool.eq_false_iff.mpr q
        · exact this.2 j (by omega) h1
  have a := at_ ex
  rw [decide_eq_true_iff] at a
  unfold osP
  refine ⟨by omega, a.1, fun j j0 j1 => ?_, le⟩
  have h := a.2 (j + 1).toNat (by omega) (by omega)
  rw [decide_eq_false_iff_not, show ((j + 1).toNat : Int) - 1 = j by omega] at h
  have := le j j0 (by omega)
  omega
/-- the set without the first one and the one that goes along -/
def nxS (s o : Int) : Int := if o = -1 then rmS s (iNTZ s) else rmS (rmS s (iNTZ s)) o
def wtF (f : Int → Int → Int) (n : Int) : Nat → Int → Int → Int
  | 0, _, _ => -1
  | k + 1, s, q => if s ≤ 0 then -1 else if iNTZ s = q then osP f n s else if osP f n s = q then iNTZ s else wtF f n k (nxS s (osP f n s)) q
theorem nx_ok (s0 : 0 < s) (s1 : s < 64) {o : Int} (o0 : -1 ≤ o) (o1 : o < 6) : (0 ≤ nxS s o ∧ nxS s o < s) ∧ ∀ q, 0 ≤ q → q < 6 → (bt (nxS s o) q ↔ bt s q ∧ q ≠ iNTZ s ∧ q ≠ o) := by
  have z := ntz_s s0 s1
  have r1 := rm_ok (s := s) (p := iNTZ s) (by omega) s1 z.1.1 z.1.2
  have r2 := r1.2.2.1 z.2.1
  unfold nxS
  by_cases c : o = -1
  · rw [if_pos c]
    refine ⟨⟨r1.1.1, r2⟩, fun q q0 q1 => ?_⟩
    rw [r1.2.1 q q0 q1]
    exact ⟨fun h => ⟨h.1, h.2, by omega⟩, fun h => ⟨h.1, h.2.1⟩⟩
  · have r3 := rm_ok (s := rmS s (iNTZ s)) (p := o) r1.1.1 r1.1.2 (by omega) o1
    rw [if_neg c]
    refine ⟨⟨r3.1.1, by omega⟩, fun q q0 q1 => ?_⟩
    rw [r3.2.1 q q0 q1, r1.2.1 q q0 q1]
    exact ⟨fun h => ⟨h.1.1, h.1.2, h.2⟩, fun h => ⟨⟨h.1, h.2.1⟩, h.2.2⟩⟩
theorem wtF_st (hf : ∀ p q, 0 ≤ p → p < 6 → 0 ≤ q → q < 6 → 0 ≤ f p q ∧ f p q ≤ 12) (n0 : 0 ≤ n) (n1 : n ≤ 6) : ∀ {k k' : Nat} {s q : Int}, s ≤ k → s ≤ k' → s < 64 → wtF f n k s q = wtF f n k' s q
  | 0, 0, _, _, _, _, _ => rfl
  | 0, k' + 1, s, q, h, _, _ => by
    show (-1 : Int) = if s ≤ 0 then -1 else _
    rw [if_pos (by omega)]
  | k + 1, 0, s, q, _, h, _ => by
    show (if s ≤ 0 then -1 else _) = (-1 : Int)
    rw [if_pos (by omega)]
  | k + 1, k' + 1, s, q, h, h', s1 => by
    show (if s ≤ 0 then -1 else if iNTZ s = q then osP f n s else if osP f n s = q then iNTZ s else wtF f n k (nxS s (osP f n s)) q) = (if s ≤ 0 then -1 else if iNTZ s = q then osP f n s else if osP f n s = q then iNTZ s else wtF f n k' (nxS s (osP f n s)) q)
    by_cases c : s ≤ 0
    · rw [if_pos c, if_pos c]
    · have o := os_ok hf n0 n1 (show 0 < s by omega) s1
      have nx := nx_ok (show 0 < s by omega) s1 o.1.1 (by omega)
      rw [if_neg c, if_neg c, wtF_st hf n0 n1 (k := k) (k' := k') (by omega) (by omega) (by omega)]
/-- whom one of a set goes with -/
def wtS (f : Int → Int → Int) (n s q : Int) : Int := wtF f n s.toNat s q
theorem wtS_eq (hf : ∀ p q, 0 ≤ p → p < 6 → 0 ≤ q → q < 6 → 0 ≤ f p q ∧ f p q ≤ 12) (n0 : 0 ≤ n) (n1 : n ≤ 6) (s0 : 0 < s) (s1 : s < 64) {q : Int} : wtS f n s q = if iNTZ s = q then osP f n s else if osP f n s = q then iNTZ s else wtS f n (nxS s (osP f n s)) q := by
  have o := os_ok hf n0 n1 s0 s1
  have nx := nx_ok s0 s1 o.1.1 (by omega)
  unfold wtS
  obtain ⟨k, hk⟩ : ∃ k, s.toNat = k + 1 := ⟨s.toNat - 1, by omega⟩
  rw [hk]
  show (if s ≤ 0 then -1 else if iNTZ s = q then osP f n s else if osP f n s = q then iNTZ s else wtF f n k (nxS s (osP f n s)) q) = _
  rw [if_neg (by omega), wtF_st hf n0 n1 (k := k) (k' := (nxS s (osP f n s)).toNat) (by omega) (by omega) (by omega)]
end PS
