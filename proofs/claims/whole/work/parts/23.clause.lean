/-! CLAUSES: what is read of words, by a stack of clauses; the class's side of it -/
theorem bn {x : Int} (h0 : 0 ≤ x) (h1 : x < 2147483648) : (Int32.ofInt x).toBitVec.toNat = x.toNat := by
  show (BitVec.ofInt 32 x).toNat = _
  rw [BitVec.toNat_ofInt]
  omega
theorem bt_toInt {z : BitVec 32} (h : z.toNat < 2147483648) : z.toInt = (z.toNat : Int) := BitVec.toInt_eq_toNat_of_lt (by omega)
theorem iOr_nat {x y : Int} (h0 : 0 ≤ x) (h1 : x < 2147483648) (h2 : 0 ≤ y) (h3 : y < 2147483648) : iOr x y = ((x.toNat ||| y.toNat : Nat) : Int) := by
  have e : (Int32.ofInt x ||| Int32.ofInt y).toBitVec.toNat = x.toNat ||| y.toNat := by
    rw [Int32.toBitVec_or, BitVec.toNat_or, bn h0 h1, bn h2 h3]
  have hb : x.toNat ||| y.toNat < 2147483648 := Nat.or_lt_two_pow (n := 31) (by omega) (by omega)
  show (Int32.ofInt x ||| Int32.ofInt y).toBitVec.toInt = _
  rw [bt_toInt (by rw [e]; exact hb), e]
theorem iAnd_nat {x y : Int} (h0 : 0 ≤ x) (h1 : x < 2147483648) (h2 : 0 ≤ y) (h3 : y < 2147483648) : iAnd x y = ((x.toNat &&& y.toNat : Nat) : Int) := by
  have e : (Int32.ofInt x &&& Int32.ofInt y).toBitVec.toNat = x.toNat &&& y.toNat := by
    rw [Int32.toBitVec_and, BitVec.toNat_and, bn h0 h1, bn h2 h3]
  have hb : x.toNat &&& y.toNat < 2147483648 := Nat.and_lt_two_pow (n := 31) _ (by omega)
  show (Int32.ofInt x &&& Int32.ofInt y).toBitVec.toInt = _
  rw [bt_toInt (by rw [e]; exact hb), e]
theorem iShl_1 {n : Int} (h0 : 0 ≤ n) (h1 : n ≤ 9) : 0 ≤ iShl 1 n ∧ iShl 1 n < 1024 := by
  have h : (List.range 10).all (fun k => decide (0 ≤ iShl 1 (k : Int) ∧ iShl 1 (k : Int) < 1024)) = true := by decide +kernel
  have h2 := List.all_eq_true.mp h n.toNat (List.mem_range.mpr (by omega))
  rw [show ((n.toNat : Nat) : Int) = n by omega] at h2
  exact of_decide_eq_true h2
theorem iOr_k {x y : Int} (h0 : 0 ≤ x) (h1 : x < 1024) (h2 : 0 ≤ y) (h3 : y < 1024) : 0 ≤ iOr x y ∧ iOr x y < 1024 := by
  rw [iOr_nat h0 (by omega) h2 (by omega)]
  have hb : x.toNat ||| y.toNat < 1024 := Nat.or_lt_two_pow (n := 10) (by omega) (by omega)
  omega
theorem iBC_k {x : Int} (h0 : 0 ≤ x) (h1 : x < 1024) : 0 ≤ iBC x ∧ iBC x ≤ 10 := by
  have h : (List.range 1024).all (fun k => decide (0 ≤ iBC (k : Int) ∧ iBC (k : Int) ≤ 10)) = true := by decide +kernel
  have h2 := List.all_eq_true.mp h x.toNat (List.mem_range.mpr (by omega))
  rw [show ((x.toNat : Nat) : Int) = x by omega] at h2
  exact of_decide_eq_true h2
/-- a clause: verb, sum, ifs, by, tos, turned -/
abbrev CL : Type := Int → Int
def eC : CL := fun f => if f = 3 then 10 else 0
def takC (c : CL) (k n : Int) : CL :=
  if k ≤ 2 then upV c 0 (if c 0 = 0 then k + 1 else c 0) else if k = 3 then upV c 1 (iMin 99 (c 1 + n)) else if k = 4 then upV c 2 (iOr (c 2) (iShl 1 n)) else if k = 5 then upV c 5 (1 - c 5) else if k = 6 then upV c 3 (iMin (c 3) n) else upV c 4 (iOr (c 4) (iShl 1 n))
def layC (a b : CL) : CL := fun f => if f = 0 then (if a 0 = 0 then b 0 else a 0) else if f = 1 then iMin 99 (a 1 + b 1) else if f = 2 then iOr (a 2) (b 2) else if f = 3 then iMin (a 3) (b 3) else if f = 4 then iOr (a 4) (b 4) else if f = 5 then iXor (a 5) (b 5) else a f
def stC (st : List CL) (w : Int × Int) : List CL := match st with
  | [] => []
  | c :: r => if w.1 = 8 then eC :: c :: r else if w.1 = 9 then (match r with
    | [] => [c]
    | a :: r' => layC a c :: r') else takC c w.1 w.2 :: r
def stk (f : Int → Int × Int) (n : Nat) : List CL := fd (fun st k => stC st (f k)) [eC] n
def trnC (c : CL) (m : Int) : CL := if m = 2 then upV c 5 (1 - c 5) else c
def enC (md : Int → Int) : Int → CL → List CL → CL
  | _, c, [] => c
  | d, c, a :: r => enC md (d + 1) (if md d = 0 then a else layC a (trnC c (md d))) r
def rdC (f : Int → Int × Int) (n : Nat) (md : Int → Int) : CL := match stk f n with
  | [] => eC
  | c :: r => enC md 0 c r
def okC (c : CL) : Prop := (0 ≤ c 0 ∧ c 0 ≤ 3) ∧ (0 ≤ c 1 ∧ c 1 ≤ 99) ∧ (0 ≤ c 2 ∧ c 2 < 1024) ∧ (0 ≤ c 3 ∧ c 3 ≤ 10) ∧ (0 ≤ c 4 ∧ c 4 < 1024) ∧ (0 ≤ c 5 ∧ c 5 ≤ 1)
theorem okC_e : okC eC := by
  unfold okC eC
  decide
theorem okC_up {c : CL} (h : okC c) {f v : Int} (h0 : f = 0 → 0 ≤ v ∧ v ≤ 3) (h1 : f = 1 → 0 ≤ v ∧ v ≤ 99) (h2 : f = 2 → 0 ≤ v ∧ v < 1024) (h3 : f = 3 → 0 ≤ v ∧ v ≤ 10) (h4 : f = 4 → 0 ≤ v ∧ v < 1024) (h5 : f = 5 → 0 ≤ v ∧ v ≤ 1) : okC (upV c f v) := by
  obtain ⟨a0, a1, a2, a3, a4, a5⟩ := h
  unfold okC upV
  refine ⟨?_, ?_, ?_, ?_, ?_, ?_⟩
  · by_cases e : (0 : Int) = f
    · rw [if_pos e]; exact h0 e.symm
    · rw [if_neg e]; exact a0
  · by_cases e : (1 : Int) = f
    · rw [if_pos e]; exact h1 e.symm
    · rw [if_neg e]; exact a1
  · by_cases e : (2 : Int) = f
    · rw [if_pos e]; exact h2 e.symm
    · rw [if_neg e]; exact a2
  · by_cases e : (3 : Int) = f
    · rw [if_pos e]; exact h3 e.symm
    · rw [if_neg e]; exact a3
  · by_cases e : (4 : Int) = f
    · rw [if_pos e]; exact h4 e.symm
    · rw [if_neg e]; exact a4
  · by_cases e : (5 : Int) = f
    · rw [if_pos e]; exact h5 e.symm
    · rw [if_neg e]; exact a5
theorem okC_tak {c : CL} (h : okC c) {k n : Int} (k0 : 0 ≤ k) (n0 : 0 ≤ n) (n1 : n ≤ 9) : okC (takC c k n) := by
  obtain ⟨a0, a1, a2, a3, a4, a5⟩ := id h
  have hs := iShl_1 n0 n1
  have o2 := iOr_k a2.1 a2.2 hs.1 hs.2
  have o4 := iOr_k a4.1 a4.2 hs.1 hs.2
  have m1 : 0 ≤ iMin 99 (c 1 + n) ∧ iMin 99 (c 1 + n) ≤ 99 := by
    rw [iMin_id (by omega) (by omega) (by omega) (by omega)]
    omega
  have m3 : 0 ≤ iMin (c 3) n ∧ iMin (c 3) n ≤ 10 := by
    rw [iMin_id (by omega) (by omega) (by omega) (by omega)]
    omega
  unfold takC
  by_cases q2 : k ≤ 2
  · rw [if_pos q2]
    exact okC_up h (fun _ => by omega) (by omega) (by omega) (by omega) (by omega) (by omega)
  rw [if_neg q2]
  by_cases q3 : k = 3
  · rw [if_pos q3]
    exact okC_up h (by omega) (fun _ => m1) (by omega) (by omega) (by omega) (by omega)
  rw [if_neg q3]
  by_cases q4 : k = 4
  · rw [if_pos q4]
    exact okC_up h (by omega) (by omega) (fun _ => o2) (by omega) (by omega) (by omega)
  rw [if_neg q4]
  by_cases q5 : k = 5
  · rw [if_pos q5]
    exact okC_up h (by omega) (by omega) (by omega) (by omega) (by omega) (by omega)
  rw [if_neg q5]
  by_cases q6 : k = 6
  · rw [if_pos q6]
    exact okC_up h (by omega) (by omega) (by omega) (fun _ => m3) (by omega) (by omega)
  rw [if_neg q6]
  exact okC_up h (by omega) (by omega) (by omega) (by omega) (fun _ => o4) (by omega)
theorem iXor_01 {x y : Int} (h0 : 0 ≤ x) (h1 : x ≤ 1) (h2 : 0 ≤ y) (h3 : y ≤ 1) : iXor x y = if x = y then 0 else 1 := by
  have hx : x = 0 ∨ x = 1 := by omega
  have hy : y = 0 ∨ y = 1 := by omega
  rcases hx with rfl | rfl <;> rcases hy with rfl | rfl <;> decide +kernel
theorem okC_lay {a b : CL} (ha : okC a) (hb : okC b) : okC (layC a b) := by
  obtain ⟨a0, a1, a2, a3, a4, a5⟩ := ha
  obtain ⟨b0, b1, b2, b3, b4, b5⟩ := hb
  unfold okC layC
  refine ⟨?_, ?_, iOr_k a2.1 a2.2 b2.1 b2.2, ?_, iOr_k a4.1 a4.2 b4.1 b4.2, ?_⟩
  · show 0 ≤ (if a 0 = 0 then b 0 else a 0) ∧ (if a 0 = 0 then b 0 else a 0) ≤ 3
    omega
  · show 0 ≤ iMin 99 (a 1 + b 1) ∧ iMin 99 (a 1 + b 1) ≤ 99
    rw [iMin_id (by omega) (by omega) (by omega) (by omega)]
    omega
  · show 0 ≤ iMin (a 3) (b 3) ∧ iMin (a 3) (b 3) ≤ 10
    rw [iMin_id (by omega) (by omega) (by omega) (by omega)]
    omega
  · show 0 ≤ iXor (a 5) (b 5) ∧ iXor (a 5) (b 5) ≤ 1
    rw [iXor_01 a5.1 a5.2 b5.1 b5.2]
    omega
theorem okC_trn {c : CL} (h : okC c) (m : Int) : okC (trnC c m) := by
  obtain ⟨a0, a1, a2, a3, a4, a5⟩ := id h
  unfold trnC
  by_cases q : m = 2
  · rw [if_pos q]
    exact okC_up h (by omega) (by omega) (by omega) (by omega) (by omega) (by omega)
  · rw [if_neg q]; exact h
def okS (st : List CL) : Prop := ∀ c ∈ st, okC c
/-- words with kinds and numbers in their bounds -/
def okW (f : Int → Int × Int) (n : Nat) : Prop := ∀ k : Nat, k < n → (0 ≤ (f k).1 ∧ (f k).1 ≤ 9) ∧ (0 ≤ (f k).2 ∧ (f k).2 ≤ 9)
/-- clauses open and shut within their bounds -/
def okN (f : Int → Int × Int) (n : Nat) : Prop := ∀ k : Nat, k ≤ n → 0 ≤ dpf f k ∧ dpf f k ≤ 3
theorem stk_ok {f : Int → Int × Int} {n : Nat} (hw : okW f n) (hn : okN f n) : ∀ k, k ≤ n → okS (stk f k) ∧ ((stk f k).length : Int) = 1 + dpf f k
  | 0, _ => ⟨fun c hc => by
      have : c = eC := List.mem_singleton.mp hc
      rw [this]
      exact okC_e, rfl⟩
  | k + 1, hk => by
    obtain ⟨h1, h2⟩ := stk_ok hw hn k (by omega)
    have hwk := hw k (by omega)
    have hn0 := hn k (by omega)
    have hn1 := hn (k + 1) hk
    have ed : dpf f (k + 1) = dpf f k + (if (f k).1 = 8 then 1 else if (f k).1 = 9 then -1 else 0) := rfl
    show okS (stC (stk f k) (f k)) ∧ ((stC (stk f k) (f k)).length : Int) = _
    generalize stk f k = st at h1 h2 ⊢
    rw [ed] at hn1 ⊢
    match st, h1, h2 with
    | [], h1, h2 => simp at h2; omega
    | c :: r, h1, h2 =>
      have hc := h1 c List.mem_cons_self
      unfold stC
      by_cases q8 : (f k).1 = 8
      · simp only [if_pos q8] at hn1 ⊢
        refine ⟨fun x hx => ?_, ?_⟩
        · rcases List.mem_cons.mp hx with rfl | hx
          · exact okC_e
          · exact h1 x hx
        · simp only [List.length_cons] at h2 ⊢
          omega
      · simp only [if_neg q8] at hn1 ⊢
        by_cases q9 : (f k).1 = 9
        · simp only [if_pos q9] at hn1 ⊢
          match r, h1, h2 with
          | [], h1, h2 => simp at h2; omega
          | a :: r', h1, h2 =>
            refine ⟨fun x hx => ?_, ?_⟩
            · rcases List.mem_cons.mp hx with rfl | hx
              · exact okC_lay (h1 a (List.mem_cons_of_mem _ List.mem_cons_self)) hc
              · exact h1 x (List.mem_cons_of_mem _ (List.mem_cons_of_mem _ hx))
            · simp only [List.length_cons] at h2 ⊢
              omega
        · simp only [if_neg q9] at hn1 ⊢
          refine ⟨fun x hx => ?_, ?_⟩
          · rcases List.mem_cons.mp hx with rfl | hx
            · exact okC_tak hc hwk.1.1 hwk.2.1 hwk.2.2
            · exact h1 x (List.mem_cons_of_mem _ hx)
          · simp only [List.length_cons] at h2 ⊢
            omega
theorem okC_en {md : Int → Int} : ∀ {r : List CL} {c : CL} {d : Int}, okC c → okS r → okC (enC md d c r)
  | [], c, d, hc, _ => hc
  | a :: r, c, d, hc, hr => by
    have ha := hr a List.mem_cons_self
    have hr' : okS r := fun x hx => hr x (List.mem_cons_of_mem _ hx)
    show okC (enC md (d + 1) (if md d = 0 then a else layC a (trnC c (md d))) r)
    by_cases q : md d = 0
    · rw [if_pos q]; exact okC_en ha hr'
    · rw [if_neg q]; exact okC_en (okC_lay ha (okC_trn hc _)) hr'
theorem okC_rd {f : Int → Int × Int} {n : Nat} (hw : okW f n) (hn : okN f n) (md : Int → Int) : okC (rdC f n md) := by
  obtain ⟨h1, h2⟩ := stk_ok hw hn n (Nat.le_refl _)
  unfold rdC
  generalize stk f n = st at h1 h2
  match st, h1 with
  | [], _ => exact okC_e
  | c :: r, h1 => exact okC_en (h1 c List.mem_cons_self) (fun x hx => h1 x (List.mem_cons_of_mem _ hx))
/-- what a clause is worth by itself -/
def whC (c : CL) : Int := if c 0 = 1 then c 1 + 2 * iBC (c 4) else if c 0 = 2 then 12 - c 3 else if c 0 = 3 then (if 0 < 9 - 2 * iBC (c 2) then 9 - 2 * iBC (c 2) else 0) else 0
def baC (c : CL) : Int := if c 5 = 1 then whC c / 2 else whC c
theorem whC_rng {c : CL} (h : okC c) : 0 ≤ whC c ∧ whC c ≤ 119 := by
  obtain ⟨a0, a1, a2, a3, a4, a5⟩ := h
  have b2 := iBC_k a2.1 a2.2
  have b4 := iBC_k a4.1 a4.2
  unfold whC
  omega
theorem baC_rng {c : CL} (h : okC c) : 0 ≤ baC c ∧ baC c ≤ 119 := by
  have := whC_rng h
  unfold baC
  omega
/-- the places of the clauses -/
def oid (n : Nat) : Int := if n = 0 then 154 else 156 + n
def cW (a : Int) : Prop := a = 154 ∨ a = 157 ∨ a = 158 ∨ a = 159
def onlyC (g g' : GG) : Prop := ∀ a j, ¬ cW a → g' a j = g a j
def CR (g : GG) : List CL → Prop
  | [] => True
  | c :: r => (∀ f, 0 ≤ f → f < 6 → g (oid r.length) (2 + f) = c f) ∧ CR g r
theorem oid_cu {n : Nat} (h : n ≤ 3) : CU (oid n) ∧ cW (oid n) := by
  have : n = 0 ∨ n = 1 ∨ n = 2 ∨ n = 3 := by omega
  rcases this with rfl | rfl | rfl | rfl
  · exact ⟨show (154 : Int) ∈ ([154, 157, 158, 159] : List Int) by decide +kernel, Or.inl rfl⟩
  · exact ⟨show (157 : Int) ∈ ([154, 157, 158, 159] : List Int) by decide +kernel, Or.inr (Or.inl rfl)⟩
  · exact ⟨show (158 : Int) ∈ ([154, 157, 158, 159] : List Int) by decide +kernel, Or.inr (Or.inr (Or.inl rfl))⟩
  · exact ⟨show (159 : Int) ∈ ([154, 157, 158, 159] : List Int) by decide +kernel, Or.inr (Or.inr (Or.inr rfl))⟩
theorem oid_around {n : Nat} (h : n < 3) : RC (oid (n + 1)) 0 = oid n := by
  have : n = 0 ∨ n = 1 ∨ n = 2 := by omega
  rcases this with rfl | rfl | rfl <;> decide +kernel
theorem oid_inner {n : Nat} (h : n < 3) : RC (oid n) 1 = oid (n + 1) := by
  have : n = 0 ∨ n = 1 ∨ n = 2 := by omega
  rcases this with rfl | rfl | rfl <;> decide +kernel
theorem oid_ne {n m : Nat} (h : n ≠ m) : oid n ≠ oid m := by
  unfold oid
  by_cases q : n = 0 <;> by_cases q' : m = 0 <;> simp only [q, q', if_true, if_false] <;> omega
theorem CR.same {g g' : GG} : ∀ {st : List CL}, CR g st → (∀ n j, n < st.length → g' (oid n) j = g (oid n) j) → CR g' st
  | [], _, _ => trivial
  | c :: r, h, e => ⟨fun f f0 f1 => by rw [e _ _ (by simp), h.1 f f0 f1], CR.same h.2 fun n j hn => e n j (by simp only [List.length_cons]; omega)⟩
