/-! AN ORDER OF WHAT IS SAID: units, orders by numbers, what is least along an order -/
def unF (f : Int → Int × Int) : Nat → Int × (Int → Int) × (Int → Int)
  | 0 => (0, fun _ => 0, fun _ => 0)
  | k + 1 => if dpf f k = 0 then ((unF f k).1 + 1, upV (unF f k).2.1 (unF f k).1 k, upV (unF f k).2.2 (unF f k).1 1) else ((unF f k).1, (unF f k).2.1, upV (unF f k).2.2 ((unF f k).1 - 1) ((unF f k).2.2 ((unF f k).1 - 1) + 1))
/-- units of the first k words -/
def UI (f : Int → Int × Int) (k : Nat) (u : Int) (A N : Int → Int) : Prop :=
  (0 ≤ u ∧ u ≤ k ∧ (0 < k → 1 ≤ u)) ∧ (∀ j, 0 ≤ j → j < u → 0 ≤ A j ∧ 1 ≤ N j ∧ dpf f (A j).toNat = 0) ∧ (∀ j, 0 ≤ j → j + 1 < u → A (j + 1) = A j + N j) ∧ (1 ≤ u → A 0 = 0 ∧ A (u - 1) + N (u - 1) = k)
theorem UI_all (f : Int → Int × Int) : ∀ k : Nat, UI f k (unF f k).1 (unF f k).2.1 (unF f k).2.2
  | 0 => ⟨⟨show (0 : Int) ≤ 0 by decide, show (0 : Int) ≤ 0 by decide, fun h => absurd h (by decide)⟩, fun j h0 h1 => absurd (show j < 0 from h1) (by omega), fun j h0 h1 => absurd (show j + 1 < 0 from h1) (by omega), fun h => absurd (show (1 : Int) ≤ 0 from h) (by decide)⟩
  | k + 1 => by
    have ih := UI_all f k
    have e : unF f (k + 1) = if dpf f k = 0 then ((unF f k).1 + 1, upV (unF f k).2.1 (unF f k).1 k, upV (unF f k).2.2 (unF f k).1 1) else ((unF f k).1, (unF f k).2.1, upV (unF f k).2.2 ((unF f k).1 - 1) ((unF f k).2.2 ((unF f k).1 - 1) + 1)) := rfl
    rw [e]
    generalize (unF f k).1 = u at ih ⊢
    generalize (unF f k).2.1 = A at ih ⊢
    generalize (unF f k).2.2 = N at ih ⊢
    obtain ⟨⟨u0, u1, u2⟩, h1, h2, h3⟩ := ih
    by_cases c : dpf f k = 0
    · rw [if_pos c]
      refine ⟨⟨?_, ?_, ?_⟩, fun j j0 j1 => ?_, fun j j0 j1 => ?_, fun _ => ⟨?_, ?_⟩⟩
      · show 0 ≤ u + 1; omega
      · show u + 1 ≤ ((k + 1 : Nat) : Int); omega
      · intro _; show 1 ≤ u + 1; omega
      · show 0 ≤ upV A u k j ∧ 1 ≤ upV N u 1 j ∧ dpf f (upV A u k j).toNat = 0
        have j1 : j < u + 1 := j1
        by_cases x : j = u
        · rw [x, upV_eq, upV_eq]
          exact ⟨by omega, by omega, by rw [Int.toNat_natCast]; exact c⟩
        · rw [upV_ne x, upV_ne x]; exact h1 j j0 (by omega)
      · show upV A u k (j + 1) = upV A u k j + upV N u 1 j
        have j1 : j + 1 < u + 1 := j1
        rw [upV_ne (show j ≠ u by omega), upV_ne (show j ≠ u by omega)]
        by_cases x : j + 1 = u
        · rw [x, upV_eq]
          have := (h3 (by omega)).2
          rw [show u - 1 = j by omega] at this
          omega
        · rw [upV_ne x]; exact h2 j j0 (by omega)
      · show upV A u k 0 = 0
        by_cases x : 0 = u
        · rw [← x, upV_eq]
          have : k = 0 := by
            by_cases q : 0 < k
            · have := u2 q; omega
            · omega
          omega
        · rw [upV_ne x]; exact (h3 (by omega)).1
      · show upV A u k (u + 1 - 1) + upV N u 1 (u + 1 - 1) = ((k + 1 : Nat) : Int)
        rw [show u + 1 - 1 = u by omega, upV_eq, upV_eq]
        omega
    · have k0 : 0 < k := by
        by_cases q : k = 0
        · rw [q] at c; exact absurd rfl c
        · omega
      have u1' := u2 k0
      have h3 := h3 u1'
      rw [if_neg c]
      refine ⟨⟨u0, ?_, fun _ => u1'⟩, fun j j0 j1 => ?_, fun j j0 j1 => ?_, fun _ => ⟨h3.1, ?_⟩⟩
      · show u ≤ ((k + 1 : Nat) : Int); omega
      · show 0 ≤ A j ∧ 1 ≤ upV N (u - 1) (N (u - 1) + 1) j ∧ dpf f (A j).toNat = 0
        have := h1 j j0 j1
        by_cases x : j = u - 1
        · rw [← x, upV_eq]; exact ⟨this.1, by omega, this.2.2⟩
        · rw [upV_ne x]; exact this
      · show A (j + 1) = A j + upV N (u - 1) (N (u - 1) + 1) j
        have j1 : j + 1 < u := j1
        rw [upV_ne (show j ≠ u - 1 by omega)]
        exact h2 j j0 j1
      · show A (u - 1) + upV N (u - 1) (N (u - 1) + 1) (u - 1) = ((k + 1 : Nat) : Int)
        rw [upV_eq]; omega
/-- a unit put behind what stands -/
def apS (A : Int → Int) (pl : Int → Int) (fl : Nat) (x : Int) : Int → Int := fun k => if k < fl then pl k else A x + (k - fl)
def loS (V : VV) (p : Int) (A N pl : Int → Int) (fl : Nat) (x : Int) : Int := fd (fun y i => iMin y (wP V p (fun k => zW V p (apS A pl fl x k)) (fl + i + 1))) 9999 (N x).toNat
def srF (V : VV) (p : Int) (A N : Int → Int) : Int → (Int → Int) → Nat → List Int → Int
  | least, _, _, [] => least
  | least, pl, fl, x :: r => srF V p A N (iMin least (loS V p A N pl fl x)) (apS A pl fl x) (fl + (N x).toNat) r
/-- the words' places of an order -/
def plF (A N : Int → Int) : (Int → Int) → Nat → List Int → (Int → Int)
  | pl, _, [] => pl
  | pl, fl, x :: r => plF A N (apS A pl fl x) (fl + (N x).toNat) r
def cnS (S : Int) (x : Int) : Int := fd (fun c q => if S.toNat.testBit q.toNat = true then c + 1 else c) 0 x.toNat
def nthS (S j : Int) : Int := lsr (fun x => S.toNat.testBit x.toNat && decide (cnS S x = j)) 0 6
def fac : Nat → Int
  | 0 => 1
  | n + 1 => (n + 1) * fac n
def ordS : Nat → Int → Int → List Int
  | 0, _, _ => []
  | k + 1, S, num => nthS S (num / fac k) :: ordS k (rmS S (nthS S (num / fac k))) (num % fac k)
theorem fac_pos : ∀ n : Nat, 1 ≤ fac n
  | 0 => Int.le_refl _
  | n + 1 => by
    have := fac_pos n
    show 1 ≤ ((n : Int) + 1) * fac n
    have h := Int.mul_le_mul (show (1 : Int) ≤ (n : Int) + 1 by omega) this (by decide) (by omega)
    omega
theorem cn_s (S : Int) {x : Int} (x0 : 0 ≤ x) : cnS S (x + 1) = if S.toNat.testBit x.toNat = true then cnS S x + 1 else cnS S x := by
  unfold cnS
  rw [show (x + 1).toNat = x.toNat + 1 by omega]
  show (if S.toNat.testBit ((x.toNat : Nat) : Int).toNat = true then _ else _) = _
  rw [Int.toNat_of_nonneg x0]
theorem cn_rng (S : Int) : ∀ n : Nat, 0 ≤ cnS S n ∧ cnS S n ≤ n := fun n => by
  induction n with
  | zero => exact ⟨show (0 : Int) ≤ 0 by decide, show (0 : Int) ≤ 0 by decide⟩
  | succ n ih =>
    have e := cn_s S (x := (n : Int)) (by omega)
    rw [show ((n + 1 : Nat) : Int) = (n : Int) + 1 by omega, e]
    by_cases c : S.toNat.testBit ((n : Int)).toNat = true
    · rw [if_pos c]; omega
    · rw [if_neg c]; omega
theorem cn_mono (S : Int) {x : Int} (x0 : 0 ≤ x) : ∀ n : Nat, cnS S x ≤ cnS S (x + n) := fun n => by
  induction n with
  | zero => rw [show x + ((0 : Nat) : Int) = x by omega]; exact Int.le_refl _
  | succ n ih =>
    have e := cn_s S (x := x + (n : Int)) (by omega)
    rw [show x + ((n + 1 : Nat) : Int) = x + (n : Int) + 1 by omega, e]
    by_cases c : S.toNat.testBit (x + (n : Int)).toNat = true
    · rw [if_pos c]; omega
    · rw [if_neg c]; exact ih
theorem nth_is {S x : Int} (x0 : 0 ≤ x) (x1 : x < 6) (hb : bt S x) : nthS S (cnS S x) = x := by
  have h := lsr_is (P := fun y => S.toNat.testBit y.toNat && decide (cnS S y = cnS S x)) (m := x.toNat) (n := 6) (i := 0) (Nat.zero_le _) (by omega) (by
    show (S.toNat.testBit ((x.toNat : Nat) : Int).toNat && decide (cnS S (x.toNat : Nat) = cnS S x)) = true
    rw [Int.toNat_of_nonneg x0, Bool.and_eq_true, decide_eq_true_iff]
    exact ⟨hb, rfl⟩) (fun j _ hj => by
    show (S.toNat.testBit ((j : Int)).toNat && decide (cnS S (j : Int) = cnS S x)) = false
    rw [Bool.and_eq_false_iff]
    by_cases c : S.toNat.testBit ((j : Int)).toNat = true
    · right
      rw [decide_eq_false_iff_not]
      have e := cn_s S (x := (j : Int)) (by omega)
      rw [if_pos c] at e
      have m := cn_mono S (x := (j : Int) + 1) (by omega) (x - ((j : Int) + 1)).toNat
      rw [show (j : Int) + 1 + ((x - ((j : Int) + 1)).toNat : Int) = x by omega] at m
      omega
    · left
      exact Bool.eq_false_iff.mpr c)
  unfold nthS
  rw [h]
  omega
/-- how many are of a set -/
def szS (S : Int) : Int := cnS S 6
theorem nth_ok {S j : Int} (j0 : 0 ≤ j) (j1 : j < szS S) : (0 ≤ nthS S j ∧ nthS S j < 6) ∧ bt S (nthS S j) ∧ cnS S (nthS S j) = j := by
  have ex : ∀ n : Nat, j < cnS S n → ∃ x : Nat, x < n ∧ bt S x ∧ cnS S x = j := fun n => by
    induction n with
    | zero => exact fun h => absurd (show j < 0 from h) (by omega)
    | succ n ih =>
      intro h
      have e := cn_s S (x := (n : Int)) (by omega)
      rw [show ((n + 1 : Nat) : Int) = (n : Int) + 1 by omega, e] at h
      by_cases c : S.toNat.testBit ((n : Int)).toNat = true
      · rw [if_pos c] at h
        by_cases q : cnS S n = j
        · exact ⟨n, by omega, c, q⟩
        · obtain ⟨x, h1, h2⟩ := ih (by omega)
          exact ⟨x, by omega, h2⟩
      · rw [if_neg c] at h
        obtain ⟨x, h1, h2⟩ := ih h
        exact ⟨x, by omega, h2⟩
  obtain ⟨x, h1, h2, h3⟩ := ex 6 j1
  have := nth_is (S := S) (x := x) (by omega) (by omega) h2
  rw [h3] at this
  rw [this]
  exact ⟨by omega, h2, h3⟩
theorem sz_rm {S x : Int} (s0 : 0 ≤ S) (s1 : S < 64) (x0 : 0 ≤ x) (x1 : x < 6) (hb : bt S x) : szS (rmS S x) = szS S - 1 := by
  have h := small_all (P := fun S x => !(S.testBit x) || decide (szS (rmS (S : Int) (x : Int)) = szS (S : Int) - 1)) (n := 64) (m := 6) (by decide +kernel) (s := S.toNat) (p := x.toNat) (by omega) (by omega)
  rw [Bool.or_eq_true, decide_eq_true_iff, Int.toNat_of_nonneg s0, Int.toNat_of_nonneg x0] at h
  rcases h with e | e
  · unfold bt at hb
    rw [hb] at e; cases e
  · exact e
section US
variable {V : VV} {p : Int} {A N : Int → Int} {u : Int}
/-- units as they lie in the words of one -/
def UT (V : VV) (p u : Int) (A N : Int → Int) : Prop := (1 ≤ u ∧ u ≤ 6) ∧ (∀ j, 0 ≤ j → j < u → 0 ≤ A j ∧ 1 ≤ N j ∧ A j + N j ≤ zL V p ∧ dpf (zW V p) (A j).toNat = 0 ∧ dpf (zW V p) (A j + N j).toNat = 0)
/-- words that stand, good so far -/
def GS (V : VV) (p : Int) (pl : Int → Int) (fl : Nat) : Prop := (∀ k : Nat, k < fl → 0 ≤ pl k ∧ pl k < zL V p) ∧ okN (fun k => zW V p (pl k)) fl ∧ dpf (fun k => zW V p (pl k)) fl = 0
theorem dpf_ap {pl : Int → Int} {fl : Nat} {x : Int} (a0 : 0 ≤ A x) (hd : dpf (zW V p) (A x).toNat = 0) (hz : dpf (fun k => zW V p (pl k)) fl = 0) : ∀ i : Nat, dpf (fun k => zW V p (apS A pl fl x k)) (fl + i) = dpf (zW V p) ((A x).toNat + i) := fun i => by
  induction i with
  | zero =>
    rw [Nat.add_zero, Nat.add_zero, hd, ← hz]
    refine dpf_cg fun k hk => ?_
    show zW V p (apS A pl fl x k) = zW V p (pl k)
    unfold apS
    rw [if_pos (by omega)]
  | succ i ih =>
    have e1 : ∀ (f : Int → Int × Int) (n : Nat), dpf f (n + 1) = dpf f n + (if (f n).1 = 8 then 1 else if (f n).1 = 9 then -1 else 0) := fun f n => rfl
    rw [← Nat.add_assoc, ← Nat.add_assoc, e1, e1, ih]
    have e2 : zW V p (apS A pl fl x ((fl + i : Nat) : Int)) = zW V p (((A x).toNat + i : Nat) : Int) := by
      unfold apS
      rw [if_neg (by omega)]
      congr 1
      omega
    rw [e2]
theorem GS.ap (hV : WF V) (p0 : 0 ≤ p) (p1 : p < 6) (hu : UT V p u A N) {pl : Int → Int} {fl : Nat} {x : Int} (h : GS V p pl fl) (x0 : 0 ≤ x) (x1 : x < u) : GS V p (apS A pl fl x) (fl + (N x).toNat) := by
  obtain ⟨a0, n0, al, d0, d1⟩ := hu.2 x x0 x1
  have hd := dpf_ap (pl := pl) (fl := fl) a0 d0 h.2.2
  refine ⟨fun k hk => ?_, fun k hk => ?_, ?_⟩
  · unfold apS
    by_cases c : (k : Int) < fl
    · rw [if_pos c]; exact h.1 k (by omega)
    · rw [if_neg c]; omega
  · by_cases c : k ≤ fl
    · have e : dpf (fun k => zW V p (apS A pl fl x k)) k = dpf (fun k => zW V p (pl k)) k := dpf_cg fun i hi => by
        show zW V p (apS A pl fl x i) = zW V p (pl i)
        unfold apS
        rw [if_pos (by omega)]
      rw [e]
      exact h.2.1 k c
    · have := hd (k - fl)
      rw [show fl + (k - fl) = k by omega] at this
      rw [this]
      exact (hV.po p0 p1).2.2.1 _ (by omega)
  · rw [hd, show (A x).toNat + (N x).toNat = (A x + N x).toNat by omega]
    exact d1
theorem wP_rng (hV : WF V) (hW : okLaw V) (p0 : 0 ≤ p) (p1 : p < 6) {pl : Int → Int} {n : Nat} (hp : ∀ k : Nat, k < n → 0 ≤ pl k ∧ pl k < zL V p) (hn : okN (fun k => zW V p (pl k)) n) : 0 ≤ wP V p (fun k => zW V p (pl k)) n ∧ wP V p (fun k => zW V p (pl k)) n ≤ 599 := by
  have hq := hV.pn p0 p1
  unfold wP
  refine wgS_rng hW (okC_rd (fun k hk => ?_) (fun k hk => hn k (by omega)) _) _
  have := hp k (by omega)
  exact hV.kn p0 p1 (by omega) (by omega)
theorem wP_cg {f f' : Int → Int × Int} {n : Nat} (h : ∀ k : Nat, k < n → f' k = f k) : wP V p f' n = wP V p f n := by
  have e : ∀ md, rdC f' n md = rdC f n md := fun md => by
    unfold rdC
    rw [stk_cg h]
  unfold wP
  rw [Int.toNat_natCast, e]
theorem lo_rng (hV : WF V) (hW : okLaw V) (p0 : 0 ≤ p) (p1 : p < 6) (hu : UT V p u A N) {pl : Int → Int} {fl : Nat} {x : Int} (h : GS V p pl fl) (x0 : 0 ≤ x) (x1 : x < u) : ∀ i : Nat, i ≤ (N x).toNat → 0 ≤ fd (fun y i => iMin y (wP V p (fun k => zW V p (apS A pl fl x k)) (fl + i + 1))) 9999 i ∧ fd (fun y i => iMin y (wP V p (fun k => zW V p (apS A pl fl x k)) (fl + i + 1))) 9999 i ≤ 9999 := fun i => by
  induction i with
  | zero => exact fun _ => ⟨show (0 : Int) ≤ 9999 by decide, show (9999 : Int) ≤ 9999 by decide⟩
  | succ i ih =>
    intro hi
    have ih := ih (by omega)
    have ga := h.ap hV p0 p1 hu x0 x1
    have hw := wP_rng hV hW p0 p1 (pl := apS A pl fl x) (n := fl + i + 1) (fun k hk => ga.1 k (by omega)) (fun k hk => ga.2.1 k (by omega))
    rw [show ((fl + i + 1 : Nat) : Int) = (fl : Int) + i + 1 by omega] at hw
    show 0 ≤ iMin _ (wP V p (fun k => zW V p (apS A pl fl x k)) ((fl : Int) + i + 1)) ∧ iMin _ (wP V p (fun k => zW V p (apS A pl fl x k)) ((fl : Int) + i + 1)) ≤ 9999
    rw [iMin_id (by omega) (by omega) (by omega) (by omega)]
    omega
theorem srF_le (hV : WF V) (hW : okLaw V) (p0 : 0 ≤ p) (p1 : p < 6) (hu : UT V p u A N) : ∀ (r : List Int) {least : Int} {pl : Int → Int} {fl : Nat}, 0 ≤ least → least ≤ 9999 → GS V p pl fl → (∀ x, x ∈ r → 0 ≤ x ∧ x < u) → 0 ≤ srF V p A N least pl fl r ∧ srF V p A N least pl fl r ≤ least
  | [], least, pl, fl, h0, h1, _, _ => ⟨h0, Int.le_refl _⟩
  | x :: r, least, pl, fl, h0, h1, hg, hr => by
    have hx := hr x List.mem_cons_self
    have hl := lo_rng hV hW p0 p1 hu hg hx.1 hx.2 (N x).toNat (Nat.le_refl _)
    have e : iMin least (loS V p A N pl fl x) = if loS V p A N pl fl x < least then loS V p A N pl fl x else least := iMin_id (by omega) (by omega) (by unfold loS; omega) (by unfold loS; omega)
    have hl2 : 0 ≤ loS V p A N pl fl x ∧ loS V p A N pl fl x ≤ 9999 := hl
    have := srF_le hV hW p0 p1 hu r (least := iMin least (loS V p A N pl fl x)) (pl := apS A pl fl x) (fl := fl + (N x).toNat) (by rw [e]; omega) (by rw [e]; omega) (hg.ap hV p0 p1 hu hx.1 hx.2) (fun y hy => hr y (List.mem_cons_of_mem _ hy))
    show 0 ≤ srF V p A N (iMin least (loS V p A N pl fl x)) (apS A pl fl x) (fl + (N x).toNat) r ∧ srF V p A N (iMin least (loS V p A N pl fl x)) (apS A pl fl x) (fl + (N x).toNat) r ≤ least
    rw [e] at this ⊢
    omega
theorem ord_in : ∀ (k : Nat) (S num : Int), 0 ≤ S → S < 64 → szS S = k → 0 ≤ num → num < fac k → (ordS k S num).length = k ∧ ∀ x, x ∈ ordS k S num → 0 ≤ x ∧ x < 6 ∧ bt S x
  | 0, S, num, _, _, _, _, _ => ⟨rfl, fun x hx => absurd hx List.not_mem_nil⟩
  | k + 1, S, num, s0, s1, sz, n0, n1 => by
    have fp := fac_pos k
    have n1 : num < ((k : Int) + 1) * fac k := n1
    have j0 : 0 ≤ num / fac k := Int.ediv_nonneg n0 (by omega)
    have j1 : num / fac k < (k : Int) + 1 := Int.ediv_lt_of_lt_mul (by omega) n1
    have nt := nth_ok (S := S) j0 (by rw [sz]; omega)
    have r1 := rm_ok s0 s1 nt.1.1 nt.1.2
    have ih := ord_in k (rmS S (nthS S (num / fac k))) (num % fac k) r1.1.1 r1.1.2 (by rw [sz_rm s0 s1 nt.1.1 nt.1.2 nt.2.1, sz]; omega) (Int.emod_nonneg _ (by omega)) (Int.emod_lt_of_pos _ (by omega))
    refine ⟨?_, fun x hx => ?_⟩
    · show (ordS k _ _).length + 1 = k + 1
      rw [ih.1]
    · rcases List.mem_cons.mp hx with e | e
      · rw [e]; exact ⟨nt.1.1, nt.1.2, nt.2.1⟩
      · have := ih.2 x e
        exact ⟨this.1, this.2.1, ((r1.2.1 x this.1 this.2.1).mp this.2.2).1⟩
end US
