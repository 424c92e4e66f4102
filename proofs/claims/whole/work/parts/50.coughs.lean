/-! COUGHS put to hours of two rivals: the class's side -/
def bb (x : Int) (p : Nat) : Bool := (Int32.ofInt x).toBitVec.getLsbD p
theorem bv_back (y : Int32) : (Int32.ofInt y.toInt).toBitVec = y.toBitVec := by rw [Int32.ofInt_toInt]
theorem bb_or (x y : Int) (p : Nat) : bb (iOr x y) p = (bb x p || bb y p) := by
  unfold bb iOr
  rw [bv_back, Int32.toBitVec_or, BitVec.getLsbD_or]
theorem bb_and (x y : Int) (p : Nat) : bb (iAnd x y) p = (bb x p && bb y p) := by
  unfold bb iAnd
  rw [bv_back, Int32.toBitVec_and, BitVec.getLsbD_and]
theorem bb_nat {x : Int} (x0 : 0 ≤ x) (x1 : x < 2147483648) (p : Nat) : bb x p = x.toNat.testBit p := by
  unfold bb
  rw [← bn x0 x1]
  rfl
theorem bb_shl {x : Int} {p : Nat} (hp : p < 31) : bb (iShl x 1) 0 = false ∧ bb (iShl x 1) (p + 1) = bb x p := by
  have e : bb (iShl x 1) = fun q => ((Int32.ofInt x).toBitVec <<< (1 : Nat)).getLsbD q := by
    funext q
    unfold bb iShl
    rw [bv_back]
    rfl
  rw [e]
  refine ⟨by simp, ?_⟩
  show ((Int32.ofInt x).toBitVec <<< (1 : Nat)).getLsbD (p + 1) = (Int32.ofInt x).toBitVec.getLsbD p
  rw [BitVec.getLsbD_shiftLeft]
  have h1 : p + 1 < 32 := by omega
  simp [h1]
theorem iAnd_sm {x y : Int} (x0 : 0 ≤ x) (x1 : x < 1024) : 0 ≤ iAnd x y ∧ iAnd x y < 1024 := by
  have e : (Int32.ofInt x &&& Int32.ofInt y).toBitVec.toNat = x.toNat &&& (Int32.ofInt y).toBitVec.toNat := by
    rw [Int32.toBitVec_and, BitVec.toNat_and, bn x0 (by omega)]
  have hb : x.toNat &&& (Int32.ofInt y).toBitVec.toNat < 1024 := Nat.lt_of_le_of_lt Nat.and_le_left (by omega)
  have h : iAnd x y = ((Int32.ofInt x &&& Int32.ofInt y).toBitVec.toNat : Int) := bt_toInt (by omega)
  rw [h, e]
  omega
theorem bb_ask {x : Int} {p : Nat} (x0 : 0 ≤ x) (x1 : x < 1024) (hp : p < 10) : iAnd (iShr x p) 1 = 0 ↔ bb x p = false := by
  have h := small_all (P := fun s p => decide (iAnd (iShr (s : Int) (p : Int)) 1 = 0 ↔ s.testBit p = false)) (n := 1024) (m := 10) (by decide +kernel) (s := x.toNat) (p := p) (by omega) hp
  rw [decide_eq_true_iff, Int.toNat_of_nonneg x0] at h
  rw [bb_nat x0 (by omega)]
  exact h
theorem bb_0 {x : Int} (x0 : 0 ≤ x) (x1 : x < 1024) : x = 0 ↔ ∀ m : Nat, m < 10 → bb x m = false := by
  refine ⟨fun e m _ => ?_, fun h => ?_⟩
  · rw [e, bb_nat (by decide) (by decide)]
    exact Nat.zero_testBit m
  · have : x.toNat = 0 := by
      apply Nat.eq_of_testBit_eq
      intro i
      rw [Nat.zero_testBit]
      by_cases hi : i < 10
      · rw [← bb_nat x0 (by omega)]; exact h i hi
      · exact Nat.testBit_lt_two_pow (Nat.lt_of_lt_of_le (show x.toNat < 2 ^ 10 by omega) (Nat.pow_le_pow_right (n := 2) (by decide) (show 10 ≤ i by omega)))
    omega
theorem lsr_ext {P Q : Int → Bool} : ∀ {n i : Nat}, (∀ j : Nat, i ≤ j → j < i + n → P j = Q j) → lsr P i n = lsr Q i n
  | 0, _, _ => rfl
  | n + 1, i, h => by
    show (if P i = true then (i : Int) else lsr P (i + 1) n) = (if Q i = true then (i : Int) else lsr Q (i + 1) n)
    rw [h i (Nat.le_refl _) (by omega), lsr_ext (P := P) (Q := Q) (n := n) (i := i + 1) (fun j h0 h1 => h j (by omega) (by omega))]
theorem lsr_no {P : Int → Bool} : ∀ {n i : Nat}, lsr P i n = -1 ↔ ∀ j : Nat, i ≤ j → j < i + n → P j = false
  | 0, i => ⟨fun _ j h0 h1 => absurd h1 (by omega), fun _ => rfl⟩
  | n + 1, i => by
    have ih := lsr_no (P := P) (n := n) (i := i + 1)
    show (if P i = true then (i : Int) else lsr P (i + 1) n) = -1 ↔ _
    by_cases c : P i = true
    · rw [if_pos c]
      refine ⟨fun e => by omega, fun h => ?_⟩
      rw [h i (Nat.le_refl _) (by omega)] at c
      cases c
    · rw [if_neg c, ih]
      refine ⟨fun h j h0 h1 => ?_, fun h j h0 h1 => h j (by omega) (by omega)⟩
      by_cases e : j = i
      · rw [e]; exact Bool.eq_false_iff.mpr c
      · exact h j (by omega) (by omega)
theorem lsr_rng {P : Int → Bool} : ∀ {n i : Nat}, -1 ≤ lsr P i n ∧ lsr P i n < i + n
  | 0, i => ⟨by show (-1 : Int) ≤ -1; omega, by show (-1 : Int) < i + (0 : Nat); omega⟩
  | n + 1, i => by
    have ih := lsr_rng (P := P) (n := n) (i := i + 1)
    show -1 ≤ (if P i = true then (i : Int) else lsr P (i + 1) n) ∧ (if P i = true then (i : Int) else lsr P (i + 1) n) < i + ((n + 1 : Nat) : Int)
    by_cases c : P i = true
    · rw [if_pos c]; omega
    · rw [if_neg c]; omega
/-- the numbers that are told, as a set -/
def nmB (T : Int → Int) (n : Nat) (m : Int) : Bool := fd (fun b i => b || decide (T i = m)) false n
def cgR (T : Int → Int) (n x : Int) : Prop := (n ≤ 6 ∧ 0 ≤ x ∧ x ≤ 99) ∧ ∀ i : Nat, (i : Int) < n → 1 ≤ T i ∧ T i ≤ 9
/-- what is coughed first: 0 if none can be, -1 if none wins -/
def tkL (N : Int → Bool) (l : List Bool) : Int := if (List.range 10).any (fun m => N m && decide (m ≤ l.length)) = true then lsr (fun m => N m && (decide (0 < m) && decide (l[m.toNat - 1]? = some false))) 0 10 else 0
/-- who is to cough wins, the latest first -/
def wL (N : Int → Bool) : Nat → List Bool
  | 0 => []
  | n + 1 => decide (tkL N (wL N n) ≠ -1) :: wL N n
def tkN (N : Int → Bool) (n : Nat) : Int := tkL N (wL N n)
theorem nmB_iff {T : Int → Int} {m : Int} : ∀ {n : Nat}, nmB T n m = true ↔ ∃ i : Nat, i < n ∧ T i = m
  | 0 => ⟨fun h => absurd (show false = true from h) (by decide), fun ⟨i, h, _⟩ => absurd h (by omega)⟩
  | n + 1 => by
    have ih := nmB_iff (T := T) (m := m) (n := n)
    have e : nmB T (n + 1) m = (nmB T n m || decide (T n = m)) := rfl
    rw [e, Bool.or_eq_true, decide_eq_true_iff, ih]
    refine ⟨fun h => ?_, fun ⟨i, h, hi⟩ => ?_⟩
    · rcases h with ⟨i, h, hi⟩ | h
      · exact ⟨i, by omega, hi⟩
      · exact ⟨n, by omega, h⟩
    · by_cases c : i = n
      · rw [c] at hi; exact Or.inr hi
      · exact Or.inl ⟨i, by omega, hi⟩
theorem wL_len (N : Int → Bool) : ∀ n : Nat, (wL N n).length = n
  | 0 => rfl
  | n + 1 => by
    show (wL N n).length + 1 = n + 1
    rw [wL_len N n]
theorem tkN_rng (N : Int → Bool) (n : Nat) : -1 ≤ tkN N n ∧ tkN N n ≤ 9 := by
  unfold tkN tkL
  by_cases c : (List.range 10).any (fun m => N m && decide (m ≤ (wL N n).length)) = true
  · rw [if_pos c]
    have := lsr_rng (P := fun m => N m && (decide (0 < m) && decide ((wL N n)[m.toNat - 1]? = some false))) (n := 10) (i := 0)
    omega
  · rw [if_neg c]; decide
def nuS (T : Int → Int) (n : Nat) : Int := fd (fun b i => iOr b (iShl 1 (iAnd (T i) 15))) 0 n
theorem nuS_ok {T : Int → Int} : ∀ {n : Nat}, (∀ i : Nat, i < n → 1 ≤ T i ∧ T i ≤ 9) → (0 ≤ nuS T n ∧ nuS T n < 1024) ∧ ∀ m : Nat, m < 10 → bb (nuS T n) m = nmB T n m
  | 0, _ => ⟨⟨show (0 : Int) ≤ 0 by decide, show (0 : Int) < 1024 by decide⟩, fun m _ => by
      show bb 0 m = false
      rw [bb_nat (by decide) (by decide)]
      exact Nat.zero_testBit m⟩
  | n + 1, h => by
    have ih := nuS_ok (T := T) (n := n) (fun i hi => h i (by omega))
    have ht := h n (by omega)
    have e1 : nuS T (n + 1) = iOr (nuS T n) (iShl 1 (iAnd (T n) 15)) := rfl
    have e2 : ∀ m, nmB T (n + 1) m = (nmB T n m || decide (T n = m)) := fun m => rfl
    have h1 := fun (p : Nat) (hp : p < 10) => small_all (P := fun t m => decide (iAnd (t : Int) 15 = (t : Int)) && decide (0 ≤ iShl 1 (t : Int) ∧ iShl 1 (t : Int) < 1024) && (bb (iShl 1 (t : Int)) m == decide (t = m))) (n := 10) (m := 10) (by decide +kernel) (s := (T n).toNat) (p := p) (by omega) hp
    have ha : iAnd (T n) 15 = T n ∧ (0 ≤ iShl 1 (T n) ∧ iShl 1 (T n) < 1024) ∧ ∀ m : Nat, m < 10 → bb (iShl 1 (T n)) m = decide (T n = (m : Int)) := by
      refine ⟨?_, ?_, fun m hm => ?_⟩
      · have := h1 0 (by omega)
        rw [Bool.and_eq_true, Bool.and_eq_true, decide_eq_true_iff, Int.toNat_of_nonneg (by omega)] at this
        exact this.1.1
      · have := h1 0 (by omega)
        rw [Bool.and_eq_true, Bool.and_eq_true, decide_eq_true_iff, decide_eq_true_iff, Int.toNat_of_nonneg (by omega)] at this
        exact this.1.2
      · have := h1 m hm
        rw [Bool.and_eq_true, beq_iff_eq, Int.toNat_of_nonneg (by omega)] at this
        rw [this.2, decide_eq_decide]
        omega
    rw [e1, ha.1]
    refine ⟨?_, fun m hm => ?_⟩
    · rw [iOr_nat ih.1.1 (by omega) ha.2.1.1 (by omega)]
      have hb : (nuS T n).toNat ||| (iShl 1 (T n)).toNat < 1024 := Nat.or_lt_two_pow (n := 10) (by omega) (by omega)
      omega
    · rw [bb_or, ih.2 m hm, ha.2.2 m hm, e2]
section CC
variable {Γ : Cfg} {l : Launch} {d b : Nat} {g : GG} {K : Ou → HP → Prop} {T : Int → Int} {n x : Int}
theorem k_leastBit (x0 : 0 ≤ x) (x1 : x < 1024) (kk : K (.inl (vI (lsr (fun m => bb x m.toNat) 0 10))) (stt g)) : Ct Γ l d b yX11_leastBit mX11_leastBit [vI x] (stt g) K := by
  apply wpX11_leastBit
  refine up_loop (P := fun i => (∀ j : Nat, j < i → bb x ((j : Int)).toNat = false) → AW Γ l mX11_leastBit d b 2 [vI x, vI i] [] (stt g) K) (N := 10) (fun hf => ?_) (fun i hi9 hi hf => ?_) 0 (Nat.zero_le _) (fun j hj => absurd hj (by omega))
  · rw [lsr_cut (P := fun m => bb x m.toNat) (i := 10) (k := 0) rfl hf] at kk
    apply wpX11_leastBit_2
    exact ⟨fun _ => kk, fun z => absurd (show 9 < wr ((10 : Nat) : Int) by decide +kernel) z⟩
  · have ha := bb_ask x0 x1 (p := i) (by omega)
    apply wpX11_leastBit_2
    rw [wr_id (x := (i : Int)) (by omega) (by omega), wr_iAnd, ha]
    refine ⟨fun z => absurd z (by omega), fun _ => ⟨fun z => hi (fun j hj => ?_), fun z => ?_⟩⟩
    · by_cases e : j = i
      · rw [e]; exact z
      · exact hf j (by omega)
    · rw [lsr_cut (P := fun m => bb x m.toNat) (i := i) (k := 10 - i) (by omega) hf, show 10 - i = (9 - i) + 1 by omega] at kk
      have kk : K (.inl (vI (if bb x ((i : Int)).toNat = true then (i : Int) else lsr (fun m => bb x m.toNat) (i + 1) (9 - i)))) (stt g) := kk
      rw [if_pos (by rw [Int.toNat_natCast]; exact eq_true_of_ne_false z)] at kk
      exact kk
theorem k_takeCoughs (hT : TB g T n) (hb : 1 ≤ b) (hx : wr x = x) (k1 : cgR T n x → K (.inl (vI (nuS T n.toNat))) (stt (upd2 g 2 1 0))) (k2 : ¬ cgR T n x → K (.inr eIA) (stt (upd2 g 2 1 0))) : Ct Γ l (d + 1) b yX11_takeCoughs mX11_takeCoughs [vR 1, vI x] (stt g) K := by
  obtain ⟨⟨hn, n0, n1⟩, hc⟩ := hT
  have w1 : wr 1 = 1 := by decide +kernel
  apply wpX11_takeCoughs hb
  refine wpX9_takeUp (bI_in ?_)
  have tc : TC (upd2 g 2 1 0) T := fun i i0 i1 => by rw [upd2_ne (by decide)]; exact hc i i0 i1
  rw [hn, wr_id (x := n) (by omega) (by omega), hx]
  generalize upd2 g 2 1 0 = g1 at tc k1 k2 ⊢
  have key : ∀ r : Int, (r = 0 ∨ r = 1) → (r = 1 → n ≤ 6 ∧ 0 ≤ x ∧ x ≤ 99) → (r = 0 → ¬ cgR T n x) → AW Γ l mX11_takeCoughs (d + 1) b 36 [vR 1, vI x, vI n, vI r, vI 0, vI 0, vU] [] (stt g1) K := by
    intro r r01 f1 f0
    refine up_loop (P := fun i => ∀ r : Int, (r = 0 ∨ r = 1) → (r = 1 → (n ≤ 6 ∧ 0 ≤ x ∧ x ≤ 99) ∧ ∀ j : Nat, j < i → 1 ≤ T j ∧ T j ≤ 9) → (r = 0 → ¬ cgR T n x) → AW Γ l mX11_takeCoughs (d + 1) b 36 [vR 1, vI x, vI n, vI r, vI (nuS T i), vI i, vU] [] (stt g1) K) (N := n.toNat) (fun r r01 f1 f0 => ?_) (fun i hi9 hi r r01 f1 f0 => ?_) 0 (Nat.zero_le _) r r01 (fun e => ⟨f1 e, fun j hj => absurd hj (by omega)⟩) f0
    · apply wpX11_takeCoughs_36 hb
      rw [wr_id (x := n) (by omega) (by omega), wr_id (x := (n.toNat : Int)) (by omega) (by omega), wr_id (x := r) (by omega) (by omega)]
      refine ⟨fun _ => ⟨fun z => k1 ?_, fun z => k2 (f0 (by omega))⟩, fun z => absurd (show n ≤ (n.toNat : Int) by omega) z⟩
      have f := f1 (by omega)
      exact ⟨f.1, fun j hj => f.2 j (by omega)⟩
    · have hi2 : ∀ r : Int, (r = 0 ∨ r = 1) → (r = 1 → (n ≤ 6 ∧ 0 ≤ x ∧ x ≤ 99) ∧ ∀ j : Nat, j < i + 1 → 1 ≤ T j ∧ T j ≤ 9) → (r = 0 → ¬ cgR T n x) → AW Γ l mX11_takeCoughs (d + 1) b 36 [vR 1, vI x, vI n, vI r, vI (iOr (nuS T i) (iShl 1 (iAnd (T i) 15))), vI ((i : Int) + 1), vI (T i)] [] (stt g1) K := fun r a c e => AW.weak (hi r a c e) (by simp [leP]; rfl)
      have c0 := tc.c (i := (i : Int)) (by omega) (by omega)
      apply wpX11_takeCoughs_36 hb
      rw [wr_id (x := n) (by omega) (by omega), wr_id (x := (i : Int)) (by omega) (by omega), wr_id (x := r) (by omega) (by omega), c0.1, c0.2.1]
      refine ⟨fun z => absurd z (by omega), fun _ => ⟨fun z => hi2 0 (Or.inl rfl) (fun c => absurd c (by decide)) (fun _ => f0 z), fun z => ?_⟩⟩
      have f := f1 (by omega)
      refine ⟨fun y => hi2 0 (Or.inl rfl) (fun c => absurd c (by decide)) (fun _ t => ?_), fun y => ⟨fun y2 => hi2 0 (Or.inl rfl) (fun c => absurd c (by decide)) (fun _ t => ?_), fun y2 => hi2 1 (Or.inr rfl) (fun _ => ⟨f.1, fun j hj => ?_⟩) (fun c => absurd c (by decide))⟩⟩
      · have := t.2 i (by omega); omega
      · have := t.2 i (by omega); omega
      · by_cases e : j = i
        · rw [e]; exact ⟨by omega, by omega⟩
        · exact f.2 j (by omega)
  refine ⟨fun z => key 0 (Or.inl rfl) (fun c => absurd c (by decide)) (fun _ t => by have := t.1; omega), fun z => ⟨fun z2 => key 0 (Or.inl rfl) (fun c => absurd c (by decide)) (fun _ t => by have := t.1; omega), fun z2 => ⟨fun z3 => key 0 (Or.inl rfl) (fun c => absurd c (by decide)) (fun _ t => by have := t.1; omega), fun z3 => key 1 (Or.inr rfl) (fun _ => ⟨by omega, by omega, by omega⟩) (fun c => absurd c (by decide))⟩⟩⟩
/-- bits of who loses -/
def LB (N : Int → Bool) (y : Int) (n : Nat) : Prop := bb y 0 = false ∧ ∀ m : Nat, m < 9 → bb y (m + 1) = decide ((wL N n)[m]? = some false)
theorem LB_next {N : Int → Bool} {y c : Int} {n : Nat} (h : LB N y n) (hc : c = 0 ∨ c = 1) (hh : c = 1 ↔ tkN N n = -1) : LB N (iShl (iOr y c) 1) (n + 1) := by
  have cb : ∀ m : Nat, bb c m = (decide (m = 0) && decide (c = 1)) := fun m => by
    rcases hc with e | e
    · rw [e, bb_nat (by decide) (by decide)]
      show (0 : Nat).testBit m = _
      rw [Nat.zero_testBit]; simp
    · rw [e, bb_nat (by decide) (by decide)]
      show (1 : Nat).testBit m = _
      cases m with
      | zero => rfl
      | succ m =>
        rw [Nat.testBit_succ]
        show (0 : Nat).testBit m = _
        rw [Nat.zero_testBit]; simp
  refine ⟨(bb_shl (p := 0) (by decide)).1, fun m hm => ?_⟩
  rw [(bb_shl (x := iOr y c) (p := m) (by omega)).2, bb_or, cb]
  cases m with
  | zero =>
    rw [h.1]
    show (false || (true && decide (c = 1))) = decide ((some (decide (tkN N n ≠ -1)) : Option Bool) = some false)
    by_cases z : tkN N n = -1
    · rw [hh.mpr z]; simp [z]
    · have : ¬ c = 1 := fun e => z (hh.mp e)
      simp [z, this]
  | succ m =>
    rw [h.2 m (by omega)]
    show (decide ((wL N n)[m]? = some false) || (decide (m + 1 = 0) && decide (c = 1))) = decide ((wL N n)[m]? = some false)
    simp
theorem k_bestCough {N : Int → Bool} (F0 : 0 ≤ x) (F1 : x < 1024) (hN : ∀ m : Nat, m < 10 → bb x m = N m) (N0 : N 0 = false) (n0 : 0 ≤ n) (n1 : n ≤ 99) (kk : K (.inl (vI (tkN N n.toNat))) (stt g)) : Ct Γ l (d + 1) b yX11_bestCough mX11_bestCough [vI x, vI n] (stt g) K := by
  apply wpX11_bestCough
  refine up_loop (P := fun i => ∀ y t : Int, LB N y i → (0 < i → t = tkN N (i - 1)) → AW Γ l mX11_bestCough (d + 1) b 7 [vI x, vI n, vI y, vI t, vI i, vU, vU] [] (stt g) K) (N := n.toNat + 1) (fun y t _ ht => ?_) (fun i hi9 hi y t hl _ => ?_) 0 (Nat.zero_le _) 0 0 ⟨by decide +kernel, fun m hm => ?_⟩ (fun c => absurd c (by omega))
  · apply wpX11_bestCough_7
    rw [wr_id (x := n) (by omega) (by omega), wr_id (x := ((n.toNat + 1 : Nat) : Int)) (by omega) (by omega)]
    refine ⟨fun _ => ?_, fun z => absurd (show n < ((n.toNat + 1 : Nat) : Int) by omega) z⟩
    rw [ht (by omega), show n.toNat + 1 - 1 = n.toNat by omega]
    exact kk
  · have hi2 : ∀ y t : Int, LB N y (i + 1) → t = tkN N i → ∀ v w : AV, AW Γ l mX11_bestCough (d + 1) b 7 [vI x, vI n, vI y, vI t, vI ((i : Int) + 1), v, w] [] (stt g) K := fun y t h1 h2 v w => AW.weak (hi y t h1 (fun _ => h2)) (by simp [leP])
    have len := wL_len N i
    -- what comes of the ones that can be coughed
    have use : ∀ U : Int, 0 ≤ U → U < 1024 → (∀ m : Nat, m < 10 → bb U m = (N m && decide (m ≤ i))) → ∀ G : Int → Prop, True := fun _ _ _ _ _ => trivial
    have fin : ∀ U : Int, 0 ≤ U → U < 1024 → (∀ m : Nat, m < 10 → bb U m = (N m && decide (m ≤ i))) →
        ((¬ U = 0 → Ct Γ l d 0 yX11_leastBit mX11_leastBit [vI (iAnd U y)] (stt g) (bI (fun v1 g1 => (¬ wr v1 = -1 → AW Γ l mX11_bestCough (d + 1) b 7 [vI x, vI n, vI (iShl (iOr y 0) 1), vI v1, vI ((i : Int) + 1), vI U, vI (iAnd U y)] [] (stt g1) K) ∧ (¬ (¬ wr v1 = -1) → AW Γ l mX11_bestCough (d + 1) b 7 [vI x, vI n, vI (iShl (iOr y 1) 1), vI v1, vI ((i : Int) + 1), vI U, vI (iAnd U y)] [] (stt g1) K)) K)) ∧ (U = 0 → AW Γ l mX11_bestCough (d + 1) b 7 [vI x, vI n, vI (iShl (iOr y 0) 1), vI 0, vI ((i : Int) + 1), vI U, vI (iAnd U y)] [] (stt g) K)) := by
      intro U U0 U1 hU
      have hz := bb_0 U0 U1
      have ez : U = 0 ↔ ¬ (List.range 10).any (fun m => N m && decide (m ≤ (wL N i).length)) = true := by
        rw [hz, List.any_eq_true, len]
        refine ⟨fun h ⟨m, hm, h2⟩ => ?_, fun h m hm => ?_⟩
        · have := h m (List.mem_range.mp hm)
          rw [hU m (List.mem_range.mp hm), h2] at this
          cases this
        · rw [hU m hm]
          exact Bool.eq_false_iff.mpr (fun c => h ⟨m, List.mem_range.mpr hm, c⟩)
      refine ⟨fun c => ?_, fun c => ?_⟩
      · have et : tkN N i = lsr (fun m => bb (iAnd U y) m.toNat) 0 10 := by
          unfold tkN tkL
          rw [if_pos (Classical.not_not.mp (fun e => c (ez.mpr e)))]
          refine lsr_ext fun j _ hj => ?_
          show (N j && (decide (0 < (j : Int)) && decide ((wL N i)[((j : Int)).toNat - 1]? = some false))) = bb (iAnd U y) ((j : Int)).toNat
          rw [Int.toNat_natCast, bb_and, hU j (by omega)]
          cases j with
          | zero => rw [hl.1]; simp
          | succ j =>
            rw [hl.2 j (by omega)]
            show (N ((j + 1 : Nat) : Int) && (decide (0 < ((j + 1 : Nat) : Int)) && decide ((wL N i)[j]? = some false))) = _
            rw [decide_eq_true (show 0 < ((j + 1 : Nat) : Int) by omega), Bool.true_and]
            by_cases q : j + 1 ≤ i
            · rw [decide_eq_true q, Bool.and_true]
            · have : (wL N i)[j]? = none := List.getElem?_eq_none (by omega)
              rw [this]; simp
        have hs := iAnd_sm (y := y) U0 U1
        refine k_leastBit hs.1 hs.2 (bI_in ?_)
        rw [← et]
        have hr := tkN_rng N i
        rw [wr_id (x := tkN N i) (by omega) (by omega)]
        exact ⟨fun z => hi2 _ _ (LB_next hl (Or.inl rfl) ⟨fun e => absurd e (by decide), fun e => absurd e z⟩) rfl _ _, fun z => hi2 _ _ (LB_next hl (Or.inr rfl) ⟨fun _ => Decidable.not_not.mp z, fun _ => rfl⟩) rfl _ _⟩
      · have et : tkN N i = 0 := by
          unfold tkN tkL
          rw [if_neg (ez.mp c)]
        exact hi2 _ _ (LB_next hl (Or.inl rfl) ⟨fun e => absurd e (by decide), fun e => absurd e (by rw [et]; decide)⟩) et.symm _ _
    apply wpX11_bestCough_7
    rw [wr_id (x := n) (by omega) (by omega), wr_id (x := (i : Int)) (by omega) (by omega), wr_iAnd, wr_id (x := x) (by omega) (by omega)]
    refine ⟨fun z => absurd z (by omega), fun _ => ⟨fun z => ?_, fun z => ?_⟩⟩
    · have hs := iAnd_sm (y := iShl 1 ((i : Int) + 1) - 1) F0 F1
      have f := fin _ hs.1 hs.2 (fun m hm => by
        have h := small_all (P := fun i m => bb (iShl 1 ((i : Int) + 1) - 1) m == decide (m ≤ i)) (n := 9) (m := 10) (by decide +kernel) (s := i) (p := m) (by omega) hm
        rw [beq_iff_eq] at h
        rw [bb_and, hN m hm, h])
      exact ⟨f.1, fun c => f.2 (Decidable.not_not.mp c)⟩
    · have f := fin _ F0 F1 (fun m hm => by rw [hN m hm, decide_eq_true (show m ≤ i by omega), Bool.and_true])
      exact ⟨f.1, fun c => f.2 (Decidable.not_not.mp c)⟩
  · rw [bb_nat (by decide) (by decide)]
    show (0 : Nat).testBit (m + 1) = decide ((none : Option Bool) = some false)
    rw [Nat.zero_testBit]; rfl
noncomputable def s_coughs (T : Int → Int) (n x : Int) : Int × Int := @ite _ (cgR T n x) (Classical.propDecidable _) (0, if tkN (nmB T n.toNat) x.toNat = -1 then 0 else 1) (1, 0)
noncomputable def s_first (T : Int → Int) (n x : Int) : Int × Int := @ite _ (cgR T n x) (Classical.propDecidable _) (0, if 0 < tkN (nmB T n.toNat) x.toNat then tkN (nmB T n.toNat) x.toNat else -1) (1, 0)
theorem nm_0 (hc : cgR T n x) : nmB T n.toNat 0 = false := Bool.eq_false_iff.mpr fun e => by
  obtain ⟨i, hi, h⟩ := nmB_iff.mp e
  have := hc.2 i (by omega)
  omega
theorem k_coughs (hT : TB g T n) (hb : 1 ≤ b) (hx : wr x = x) (kk : ∀ g', kU g g' → K (oc [eIA] (s_coughs T n x)) (stt g')) : Ct Γ l (d + 2) b yX11_coughs mX11_coughs [vR 1, vI x] (stt g) K := by
  have kk := kk _ kU.one
  have n0 := hT.1.2.1
  unfold s_coughs at kk
  apply wpX11_coughs hb
  refine k_takeCoughs hT (by decide) hx (fun hc => bI_in ?_) (fun hc => bI_th ?_)
  · rw [if_pos hc] at kk
    have hn := nuS_ok (T := T) (n := n.toNat) (fun i hi => hc.2 i (by omega))
    refine k_bestCough (N := nmB T n.toNat) hn.1.1 hn.1.2 hn.2 (nm_0 hc) hc.1.2.1 hc.1.2.2 (bI_in ?_)
    have hr := tkN_rng (nmB T n.toNat) x.toNat
    rw [wr_id (x := tkN (nmB T n.toNat) x.toNat) (by omega) (by omega)]
    refine ⟨fun z => ?_, fun z => ?_⟩
    · rw [if_pos z] at kk; exact kk
    · rw [if_neg z] at kk; exact kk
  · rw [if_neg hc] at kk; exact kk
theorem k_first (hT : TB g T n) (hb : 1 ≤ b) (hx : wr x = x) (kk : ∀ g', kU g g' → K (oc [eIA] (s_first T n x)) (stt g')) : Ct Γ l (d + 2) b yX11_first mX11_first [vR 1, vI x] (stt g) K := by
  have kk := kk _ kU.one
  have n0 := hT.1.2.1
  unfold s_first at kk
  apply wpX11_first hb
  refine k_takeCoughs hT (by decide) hx (fun hc => bI_in ?_) (fun hc => bI_th ?_)
  · rw [if_pos hc] at kk
    have hn := nuS_ok (T := T) (n := n.toNat) (fun i hi => hc.2 i (by omega))
    refine k_bestCough (N := nmB T n.toNat) hn.1.1 hn.1.2 hn.2 (nm_0 hc) hc.1.2.1 hc.1.2.2 (bI_in ?_)
    have hr := tkN_rng (nmB T n.toNat) x.toNat
    rw [wr_id (x := tkN (nmB T n.toNat) x.toNat) (by omega) (by omega)]
    refine ⟨fun z => ?_, fun z => ?_⟩
    · rw [if_neg (by omega)] at kk; exact kk
    · rw [if_pos (by omega)] at kk; exact kk
  · rw [if_neg hc] at kk; exact kk
end CC
