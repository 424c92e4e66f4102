/-! VIEWS: numbers, folds, the hills as the reference's row has them -/
theorem up_loop {P : Nat → Prop} {N : Nat} (h0 : P N) (hs : ∀ n, n < N → P (n + 1) → P n) : ∀ n, n ≤ N → P n := by
  have key : ∀ k n, n + k = N → P n := by
    intro k
    induction k with
    | zero =>
      intro n h
      have e : n = N := by omega
      rw [e]
      exact h0
    | succ k ih =>
      intro n h
      exact hs n (by omega) (ih (n + 1) (by omega))
  intro n hn
  exact key (N - n) n (by omega)
def fd {α : Type} (f : α → Int → α) (a : α) : Nat → α
  | 0 => a
  | n + 1 => f (fd f a n) n
theorem fd_ind {α : Type} {f : α → Int → α} {a : α} {P : Nat → α → Prop} (h0 : P 0 a) (hs : ∀ n x, P n x → P (n + 1) (f x n)) : ∀ n, P n (fd f a n)
  | 0 => h0
  | n + 1 => hs n _ (fd_ind h0 hs n)
theorem fd_ext {α : Type} {f f' : α → Int → α} {a : α} : ∀ {n : Nat}, (∀ x (k : Nat), k < n → f x k = f' x k) → fd f a n = fd f' a n
  | 0, _ => rfl
  | n + 1, h => by
    show f (fd f a n) n = f' (fd f' a n) n
    rw [fd_ext (fun x k hk => h x k (by omega)), h _ n (by omega)]
theorem wr_iAnd (x y : Int) : wr (iAnd x y) = iAnd x y := by unfold wr iAnd; rw [Int32.ofInt_toInt]
theorem wr_iOr (x y : Int) : wr (iOr x y) = iOr x y := by unfold wr iOr; rw [Int32.ofInt_toInt]
theorem wr_iXor (x y : Int) : wr (iXor x y) = iXor x y := by unfold wr iXor; rw [Int32.ofInt_toInt]
theorem wr_iShl (x y : Int) : wr (iShl x y) = iShl x y := by unfold wr iShl; rw [Int32.ofInt_toInt]
theorem wr_iShr (x y : Int) : wr (iShr x y) = iShr x y := by unfold wr iShr; rw [Int32.ofInt_toInt]
theorem wr_iUsh (x y : Int) : wr (iUsh x y) = iUsh x y := by unfold wr iUsh; rw [Int32.ofInt_toInt]
theorem wr_iDiv (x y : Int) : wr (iDiv x y) = iDiv x y := by unfold wr iDiv; rw [Int32.ofInt_toInt]
theorem wr_iRem (x y : Int) : wr (iRem x y) = iRem x y := by unfold wr iRem; rw [Int32.ofInt_toInt]
theorem wr_iB (x : Int) : wr (iB x) = iB x := by unfold wr iB; rw [Int32.ofInt_toInt]
theorem iDiv_nn {x y : Int} (h0 : 0 ≤ x) (h1 : x < 2147483648) (h2 : 0 < y) (h3 : y < 2147483648) : iDiv x y = x / y := by
  have ey : (Int32.ofInt y).toInt = y := wr_id (by omega) h3
  have ex : (Int32.ofInt x).toInt = x := wr_id (by omega) h1
  unfold iDiv
  rw [Int32.toInt_div_of_ne_right, ex, ey, Int.tdiv_eq_ediv_of_nonneg h0]
  intro e
  rw [e] at ey
  have : (-1 : Int32).toInt = -1 := by decide +kernel
  omega
theorem iRem_nn {x y : Int} (h0 : 0 ≤ x) (h1 : x < 2147483648) (h2 : 0 < y) (h3 : y < 2147483648) : iRem x y = x % y := by
  have e1 := iDiv_nn h0 h1 h2 h3
  have e2 : Int32.ofInt x / Int32.ofInt y = Int32.ofInt (x / y) := by
    rw [← e1]
    unfold iDiv
    rw [Int32.ofInt_toInt]
  unfold iRem
  rw [e2, ← Int32.ofInt_mul, ← Int32.ofInt_sub]
  have h5 := Int.emod_nonneg x (show y ≠ 0 by omega)
  have h6 := Int.emod_lt_of_pos x h2
  have h7 : x - x / y * y = x % y := by
    have := Int.mul_ediv_add_emod x y
    rw [Int.mul_comm] at this
    omega
  rw [h7]
  exact wr_id (by omega) (by omega)
theorem iOr_0 {x : Int} (h : wr x = x) : iOr x 0 = x := by
  unfold iOr
  rw [show Int32.ofInt 0 = 0 by decide +kernel, Int32.or_zero]
  exact h
theorem iMin_id {x y : Int} (h1 : -2147483648 ≤ x) (h2 : x < 2147483648) (h3 : -2147483648 ≤ y) (h4 : y < 2147483648) : iMin x y = if y < x then y else x := by
  unfold iMin
  rw [wr_id h1 h2, wr_id h3 h4]
theorem iMax_id {x y : Int} (h1 : -2147483648 ≤ x) (h2 : x < 2147483648) (h3 : -2147483648 ≤ y) (h4 : y < 2147483648) : iMax x y = if x < y then y else x := by
  unfold iMax
  rw [wr_id h1 h2, wr_id h3 h4]
theorem upd2_ne {f : GG} {a j v a' j' : Int} (h : a' ≠ a) : upd2 f a j v a' j' = f a' j' := if_neg (fun z => h z.2)
theorem upd2_nj {f : GG} {a j v a' j' : Int} (h : j' ≠ j) : upd2 f a j v a' j' = f a' j' := if_neg (fun z => h z.1)
theorem upd2_eq {f : GG} {a j v : Int} : upd2 f a j v a j = v := if_pos ⟨rfl, rfl⟩
theorem puc_in {g : GG} {r p v : Int} (h0 : 0 ≤ p) (h1 : p < ln r) : puc g r p v = upd2 g r p v := by
  have h2 : ln r < 2147483648 := by
    have := wr_hi (ln r)
    rw [wr_ln] at this
    exact this
  unfold puc
  rw [wr_id (by omega) (by omega), if_pos ⟨h0, h1⟩]
theorem cel_in {g : GG} {r p : Int} (h0 : 0 ≤ p) (h1 : p < ln r) : cel g r p = g r p := by
  have h2 : ln r < 2147483648 := by
    have := wr_hi (ln r)
    rw [wr_ln] at this
    exact this
  unfold cel
  rw [wr_id (by omega) (by omega), if_pos ⟨h0, h1⟩]
/-- a world of the reference -/
abbrev VV : Type := Int → Int
def upV (V : VV) (i v : Int) : VV := fun j => if j = i then v else V j
theorem upV_eq {V : VV} {i v : Int} : upV V i v i = v := if_pos rfl
theorem upV_ne {V : VV} {i v j : Int} (h : j ≠ i) : upV V i v j = V j := if_neg h
def zL (V : VV) (p : Int) : Int := V (12 + 29 * p + 0)
def zB (V : VV) (p : Int) : Int := V (12 + 29 * p + 1)
def zG (V : VV) (p : Int) : Int := V (12 + 29 * p + 2)
def zS (V : VV) (p : Int) : Int := V (12 + 29 * p + 3)
def zC (V : VV) (p : Int) : Int := V (12 + 29 * p + 4)
def zK (V : VV) (p k : Int) : Int := V (12 + 29 * p + (5 + 2 * k))
def zN (V : VV) (p k : Int) : Int := V (12 + 29 * p + (5 + 2 * k + 1))
/-- a word: its kind and number -/
def zW (V : VV) (p k : Int) : Int × Int := (zK V p k, zN V p k)
/-- how many clauses are open behind the first k words -/
def dpf (f : Int → Int × Int) (k : Nat) : Int := fd (fun d i => d + (if (f i).1 = 8 then 1 else if (f i).1 = 9 then -1 else 0)) 0 k
def PO (V : VV) (p : Int) : Prop :=
  ((0 ≤ zL V p ∧ zL V p ≤ 12) ∧ (0 ≤ zB V p ∧ zB V p ≤ 9) ∧ (0 ≤ zG V p ∧ zG V p ≤ 9) ∧ (0 ≤ zS V p ∧ zS V p ≤ 2) ∧ (0 ≤ zC V p ∧ zC V p ≤ zL V p) ∧ (p < V 0 → 1 ≤ zL V p ∧ 1 ≤ zB V p)) ∧
  (∀ k, 0 ≤ k → k < 12 → (0 ≤ zK V p k ∧ zK V p k ≤ 9) ∧ (0 ≤ zN V p k ∧ zN V p k ≤ 9)) ∧
  (∀ k : Nat, (k : Int) ≤ zL V p → 0 ≤ dpf (zW V p) k ∧ dpf (zW V p) k ≤ 3) ∧ dpf (zW V p) (zL V p).toNat = 0
def WF (V : VV) : Prop :=
  ((0 ≤ V 0 ∧ V 0 ≤ 6) ∧ (0 ≤ V 1 ∧ V 1 ≤ 12) ∧ (0 ≤ V 3 ∧ V 3 ≤ 100) ∧ (0 ≤ V 4 ∧ V 4 ≤ 9999) ∧ (0 ≤ V 5 ∧ V 5 ≤ 9999) ∧ (0 ≤ V 6 ∧ V 6 ≤ 60)) ∧
  (∀ d, 0 ≤ d → d < 4 → 0 ≤ V (8 + d) ∧ V (8 + d) ≤ 2) ∧ (∀ p, 0 ≤ p → p < 6 → PO V p)
def HRel (g : GG) (t : Int) (V : VV) : Prop :=
  HI t ∧ (g t 8 = V 0 ∧ g t 9 = V 1 ∧ g t 10 = V 3 ∧ g t 11 = V 4 ∧ g t 12 = V 5 ∧ g t 13 = V 7 ∧ g t 14 = V 6) ∧
  (∀ d, 0 ≤ d → d < 4 → g (t + 1 + 6) d = V (8 + d)) ∧
  (∀ c p, 1 ≤ c → c ≤ 5 → 0 ≤ p → p < 6 → g (t + 1 + c) p = V (12 + 29 * p + (c - 1))) ∧
  (∀ p k, 0 ≤ p → p < 6 → 0 ≤ k → k < 12 → g (t + 1 + 0) (p * 12 + k) = 10 * zK V p k + zN V p k) ∧
  (∀ i w, 0 ≤ i → i < V 6 → 0 ≤ w → w < 5 → g (t + 1 + 7) ((V 6 - 1 - i) * 5 + w) = V (186 + 5 * i + w))
section VW
variable {g g' : GG} {t p k : Int} {V : VV}
theorem HRel.hi (h : HRel g t V) : HI t := h.1
theorem HRel.ppl (h : HRel g t V) : g t 8 = V 0 := h.2.1.1
theorem HRel.txt (h : HRel g t V) : g t 9 = V 1 := h.2.1.2.1
theorem HRel.noi (h : HRel g t V) : g t 10 = V 3 := h.2.1.2.2.1
theorem HRel.hou (h : HRel g t V) : g t 11 = V 4 := h.2.1.2.2.2.1
theorem HRel.ear (h : HRel g t V) : g t 12 = V 5 := h.2.1.2.2.2.2.1
theorem HRel.see (h : HRel g t V) : g t 13 = V 7 := h.2.1.2.2.2.2.2.1
theorem HRel.lgd (h : HRel g t V) : g t 14 = V 6 := h.2.1.2.2.2.2.2.2
theorem HRel.cM (h : HRel g t V) {d : Int} (h0 : 0 ≤ d) (h1 : d < 4) : cel g (t + 1 + 6) d = V (8 + d) := by
  rw [cel_in h0 (by rw [h.hi.l6]; exact h1)]
  exact h.2.2.1 d h0 h1
theorem HRel.cL (h : HRel g t V) (h0 : 0 ≤ p) (h1 : p < 6) : cel g (t + 1 + 1) p = zL V p := by
  rw [cel_in h0 (by rw [h.hi.l1]; exact h1)]
  exact h.2.2.2.1 1 p (by decide) (by decide) h0 h1
theorem HRel.cB (h : HRel g t V) (h0 : 0 ≤ p) (h1 : p < 6) : cel g (t + 1 + 2) p = zB V p := by
  rw [cel_in h0 (by rw [h.hi.l2]; exact h1)]
  exact h.2.2.2.1 2 p (by decide) (by decide) h0 h1
theorem HRel.cG (h : HRel g t V) (h0 : 0 ≤ p) (h1 : p < 6) : cel g (t + 1 + 3) p = zG V p := by
  rw [cel_in h0 (by rw [h.hi.l3]; exact h1)]
  exact h.2.2.2.1 3 p (by decide) (by decide) h0 h1
theorem HRel.cS (h : HRel g t V) (h0 : 0 ≤ p) (h1 : p < 6) : cel g (t + 1 + 4) p = zS V p := by
  rw [cel_in h0 (by rw [h.hi.l4]; exact h1)]
  exact h.2.2.2.1 4 p (by decide) (by decide) h0 h1
theorem HRel.cC (h : HRel g t V) (h0 : 0 ≤ p) (h1 : p < 6) : cel g (t + 1 + 5) p = zC V p := by
  rw [cel_in h0 (by rw [h.hi.l5]; exact h1)]
  exact h.2.2.2.1 5 p (by decide) (by decide) h0 h1
theorem HRel.cW (h : HRel g t V) (h0 : 0 ≤ p) (h1 : p < 6) (h2 : 0 ≤ k) (h3 : k < 12) : cel g (t + 1 + 0) (p * 12 + k) = 10 * zK V p k + zN V p k := by
  rw [cel_in (by omega) (by rw [h.hi.l0]; omega)]
  exact h.2.2.2.2.1 p k h0 h1 h2 h3
theorem HI.rng (h : HI t) : (8 ≤ t ∧ t + 8 ≤ 34) ∨ (45 ≤ t ∧ t + 8 ≤ 152) := by
  have := HI.all0 (P := fun t => decide ((8 ≤ t ∧ t + 8 ≤ 34) ∨ (45 ≤ t ∧ t + 8 ≤ 152))) (by decide +kernel) h
  exact of_decide_eq_true this
theorem HRel.fr (h : HRel g t V) (e : ∀ a j, t ≤ a → a ≤ t + 8 → g' a j = g a j) : HRel g' t V := by
  obtain ⟨h0, ⟨a1, a2, a3, a4, a5, a6, a7⟩, h2, h3, h4, h5⟩ := h
  refine ⟨h0, ⟨?_, ?_, ?_, ?_, ?_, ?_, ?_⟩, fun d d0 d1 => ?_, fun c p c0 c1 p0 p1 => ?_, fun p k p0 p1 k0 k1 => ?_, fun i w i0 i1 w0 w1 => ?_⟩
  · rw [e _ _ (by omega) (by omega), a1]
  · rw [e _ _ (by omega) (by omega), a2]
  · rw [e _ _ (by omega) (by omega), a3]
  · rw [e _ _ (by omega) (by omega), a4]
  · rw [e _ _ (by omega) (by omega), a5]
  · rw [e _ _ (by omega) (by omega), a6]
  · rw [e _ _ (by omega) (by omega), a7]
  · rw [e _ _ (by omega) (by omega), h2 d d0 d1]
  · rw [e _ _ (by omega) (by omega), h3 c p c0 c1 p0 p1]
  · rw [e _ _ (by omega) (by omega), h4 p k p0 p1 k0 k1]
  · rw [e _ _ (by omega) (by omega), h5 i w i0 i1 w0 w1]
/-- only what lies in the hills counts of a world -/
theorem HRel.cg {V' : VV} (h : HRel g t V) (hV : WF V) (e : ∀ j, 0 ≤ j → j < 486 → V' j = V j) : HRel g t V' := by
  obtain ⟨h0, ⟨a1, a2, a3, a4, a5, a6, a7⟩, h2, h3, h4, h5⟩ := h
  have hl := hV.1.2.2.2.2.2
  refine ⟨h0, ⟨?_, ?_, ?_, ?_, ?_, ?_, ?_⟩, fun d d0 d1 => ?_, fun c p c0 c1 p0 p1 => ?_, fun p k p0 p1 k0 k1 => ?_, ?_⟩
  · rw [e _ (by omega) (by omega), a1]
  · rw [e _ (by omega) (by omega), a2]
  · rw [e _ (by omega) (by omega), a3]
  · rw [e _ (by omega) (by omega), a4]
  · rw [e _ (by omega) (by omega), a5]
  · rw [e _ (by omega) (by omega), a6]
  · rw [e _ (by omega) (by omega), a7]
  · rw [e _ (by omega) (by omega), h2 d d0 d1]
  · rw [e _ (by omega) (by omega), h3 c p c0 c1 p0 p1]
  · unfold zK zN at h4 ⊢
    rw [e _ (by omega) (by omega), e _ (by omega) (by omega), h4 p k p0 p1 k0 k1]
  · rw [e 6 (by omega) (by omega)]
    intro i w i0 i1 w0 w1
    rw [e _ (by omega) (by omega), h5 i w i0 i1 w0 w1]
/-- a row of people's numbers is written -/
theorem HRel.arr (h : HRel g t V) {c v : Int} (c0 : 1 ≤ c) (c1 : c ≤ 5) (p0 : 0 ≤ p) (p1 : p < 6) (hl : V 6 ≤ 60) : HRel (upd2 g (t + 1 + c) p v) t (upV V (12 + 29 * p + (c - 1)) v) := by
  obtain ⟨h0, ⟨a1, a2, a3, a4, a5, a6, a7⟩, h2, h3, h4, h5⟩ := h
  refine ⟨h0, ⟨?_, ?_, ?_, ?_, ?_, ?_, ?_⟩, fun d d0 d1 => ?_, fun c' p' c0' c1' p0' p1' => ?_, fun p' k p0' p1' k0 k1 => ?_, ?_⟩
  · rw [upd2_ne (by omega), upV_ne (by omega), a1]
  · rw [upd2_ne (by omega), upV_ne (by omega), a2]
  · rw [upd2_ne (by omega), upV_ne (by omega), a3]
  · rw [upd2_ne (by omega), upV_ne (by omega), a4]
  · rw [upd2_ne (by omega), upV_ne (by omega), a5]
  · rw [upd2_ne (by omega), upV_ne (by omega), a6]
  · rw [upd2_ne (by omega), upV_ne (by omega), a7]
  · rw [upd2_ne (by omega), upV_ne (by omega), h2 d d0 d1]
  · by_cases e : c' = c ∧ p' = p
    · rw [e.1, e.2, upd2_eq, upV_eq]
    · by_cases e2 : c' = c
      · rw [upd2_nj (fun z => e ⟨e2, z⟩), upV_ne (by omega), h3 c' p' c0' c1' p0' p1']
      · rw [upd2_ne (by omega), upV_ne (by omega), h3 c' p' c0' c1' p0' p1']
  · have h9 : p' = p ∨ p' + 1 ≤ p ∨ p + 1 ≤ p' := by omega
    unfold zK zN at h4 ⊢
    rw [upd2_ne (by omega), upV_ne (by omega), upV_ne (by omega), h4 p' k p0' p1' k0 k1]
  · rw [upV_ne (by omega)]
    intro i w i0 i1 w0 w1
    rw [upd2_ne (by omega), upV_ne (by omega), h5 i w i0 i1 w0 w1]
/-- the hills' own numbers: places of the object and of the row -/
def fvi (f : Int) : Int := if f = 8 then 0 else if f = 9 then 1 else if f = 10 then 3 else if f = 11 then 4 else if f = 12 then 5 else if f = 13 then 7 else 6
theorem HRel.fld (h : HRel g t V) {f v : Int} (f0 : 8 ≤ f) (f1 : f < 14) (hl : V 6 ≤ 60) : HRel (upd2 g t f v) t (upV V (fvi f) v) := by
  obtain ⟨h0, ⟨a1, a2, a3, a4, a5, a6, a7⟩, h2, h3, h4, h5⟩ := h
  have hf : fvi f ≠ 6 ∧ 0 ≤ fvi f ∧ fvi f < 8 := by
    unfold fvi
    omega
  have key : ∀ f' : Int, 8 ≤ f' → f' ≤ 14 → g t f' = V (fvi f') → upd2 g t f v t f' = upV V (fvi f) v (fvi f') := by
    intro f' b0 b1 b2
    by_cases e : f' = f
    · rw [e, upd2_eq, upV_eq]
    · rw [upd2_nj e, upV_ne, b2]
      unfold fvi
      omega
  refine ⟨h0, ⟨key 8 (by decide) (by decide) a1, key 9 (by decide) (by decide) a2, key 10 (by decide) (by decide) a3, key 11 (by decide) (by decide) a4, key 12 (by decide) (by decide) a5, key 13 (by decide) (by decide) a6, key 14 (by decide) (by decide) a7⟩, fun d d0 d1 => ?_, fun c' p' c0' c1' p0' p1' => ?_, fun p' k p0' p1' k0 k1 => ?_, ?_⟩
  · rw [upd2_ne (by omega), upV_ne (by omega), h2 d d0 d1]
  · rw [upd2_ne (by omega), upV_ne (by omega), h3 c' p' c0' c1' p0' p1']
  · unfold zK zN at h4 ⊢
    rw [upd2_ne (by omega), upV_ne (by omega), upV_ne (by omega), h4 p' k p0' p1' k0 k1]
  · rw [upV_ne (by omega)]
    intro i w i0 i1 w0 w1
    rw [upd2_ne (by omega), upV_ne (by omega), h5 i w i0 i1 w0 w1]
theorem HRel.mod (h : HRel g t V) {d v : Int} (d0 : 0 ≤ d) (d1 : d < 4) (hl : V 6 ≤ 60) : HRel (upd2 g (t + 1 + 6) d v) t (upV V (8 + d) v) := by
  obtain ⟨h0, ⟨a1, a2, a3, a4, a5, a6, a7⟩, h2, h3, h4, h5⟩ := h
  refine ⟨h0, ⟨?_, ?_, ?_, ?_, ?_, ?_, ?_⟩, fun d' d0 d1 => ?_, fun c' p' c0' c1' p0' p1' => ?_, fun p' k p0' p1' k0 k1 => ?_, ?_⟩
  · rw [upd2_ne (by omega), upV_ne (by omega), a1]
  · rw [upd2_ne (by omega), upV_ne (by omega), a2]
  · rw [upd2_ne (by omega), upV_ne (by omega), a3]
  · rw [upd2_ne (by omega), upV_ne (by omega), a4]
  · rw [upd2_ne (by omega), upV_ne (by omega), a5]
  · rw [upd2_ne (by omega), upV_ne (by omega), a6]
  · rw [upd2_ne (by omega), upV_ne (by omega), a7]
  · by_cases e : d' = d
    · rw [e, upd2_eq, upV_eq]
    · rw [upd2_nj e, upV_ne (by omega), h2 d' d0 d1]
  · rw [upd2_ne (by omega), upV_ne (by omega), h3 c' p' c0' c1' p0' p1']
  · unfold zK zN at h4 ⊢
    rw [upd2_ne (by omega), upV_ne (by omega), upV_ne (by omega), h4 p' k p0' p1' k0 k1]
  · rw [upV_ne (by omega)]
    intro i w i0 i1 w0 w1
    rw [upd2_ne (by omega), upV_ne (by omega), h5 i w i0 i1 w0 w1]
/-- a row of the log, the newest first -/
def zNote (V : VV) (p what many weight : Int) : VV := fun j =>
  if j = 186 then V 4 else if j = 187 then p else if j = 188 then what else if j = 189 then many else if j = 190 then weight
  else if 191 ≤ j ∧ j < 486 then V (j - 5) else if j = 6 then (if V 6 < 60 then V 6 + 1 else 60) else V j
end VW
