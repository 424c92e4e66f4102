/-! A TEXT OF THE LAW: its lines -/
def qq0 : QQ := (0, fun _ => 0, fun _ => 0)
abbrev RN : Type := Bool × Int × Int × Int × QQ
/-- a line: what it does, how many, its condition -/
def llR (S N : Int → Int) (F : Nat) (a : Int) : RN :=
  if 1017 ≤ S a ∧ S a ≤ 1019 then
    (if isN S N (a + 1) 0 40 then
      (if S (a + 2) = 1004 then (let r := cdR S N F 0 0 (a + 3) qq0
        (r.1, r.2.1, S a - 1017, N (a + 1), r.2.2))
      else (true, a + 2, S a - 1017, N (a + 1), qq0))
    else (false, a + 1, 0, 0, qq0))
  else (false, a, 0, 0, qq0)
/-- the law with a line more, behind c codes -/
def adL (W : VV) (k c : Int) (x : Int × Int × QQ) : VV := fun j =>
  if j = 487 + 4 * k then x.1 else if j = 487 + 4 * k + 1 then x.2.1 else if j = 487 + 4 * k + 2 then c else if j = 487 + 4 * k + 3 then c + x.2.2.1
  else if 535 + 2 * c ≤ j ∧ j < 535 + 2 * (c + x.2.2.1) then (if (j - 535) % 2 = 0 then x.2.2.2.1 ((j - 535) / 2 - c) else x.2.2.2.2 ((j - 535) / 2 - c)) else W j
/-- worlds of a text of the law: which, lines -/
abbrev RT : Type := Bool × Int × VV × Int
def ltR (S N : Int → Int) (F : Nat) : Nat → VV → Int → Int → Int → RT
  | 0, W, _, k, a => (false, a, W, k)
  | f + 1, W, c, k, a => let r := llR S N F a
    if r.1 = true then (if S r.2.1 = 1037 then (true, r.2.1, adL W k c r.2.2, k + 1) else if S r.2.1 = 1030 then ltR S N F f (adL W k c r.2.2) (c + r.2.2.2.2.1) (k + 1) (r.2.1 + 1) else (false, r.2.1, W, k)) else (false, r.2.1, W, k)
def laR (S N : Int → Int) (F : Nat) : RT := if S 0 = 1037 then (true, 0, (fun _ => 0), 0) else ltR S N F 12 (fun _ => 0) 0 0 0
theorem adL_line {W : VV} {k c : Int} {x : Int × Int × QQ} (k0 : 0 ≤ k) (k1 : k < 12) (c0 : 0 ≤ c) : lwW (adL W k c x) k = x.1 ∧ lwN (adL W k c x) k = x.2.1 ∧ lwF (adL W k c x) k = c ∧ lwT (adL W k c x) k = c + x.2.2.1 := by
  unfold lwW lwN lwF lwT adL
  refine ⟨if_pos rfl, ?_, ?_, ?_⟩
  · rw [if_neg (by omega), if_pos rfl]
  · rw [if_neg (by omega), if_neg (by omega), if_pos rfl]
  · rw [if_neg (by omega), if_neg (by omega), if_neg (by omega), if_pos rfl]
theorem adL_code {W : VV} {k c : Int} {x : Int × Int × QQ} (k1 : k < 12) (c0 : 0 ≤ c) {i : Int} (i0 : 0 ≤ i) (i1 : i < x.2.2.1) : lwC (adL W k c x) (c + i) = x.2.2.2.1 i ∧ lwA (adL W k c x) (c + i) = x.2.2.2.2 i := by
  unfold lwC lwA adL
  constructor
  · rw [if_neg (by omega), if_neg (by omega), if_neg (by omega), if_neg (by omega), if_pos (by omega), if_pos (by omega), show (535 + 2 * (c + i) - 535) / 2 - c = i by omega]
  · rw [if_neg (by omega), if_neg (by omega), if_neg (by omega), if_neg (by omega), if_pos (by omega), if_neg (by omega), show (535 + 2 * (c + i) + 1 - 535) / 2 - c = i by omega]
theorem adL_old {W : VV} {k c : Int} {x : Int × Int × QQ} (k1 : k < 12) (c0 : 0 ≤ c) (j : Int) (h : (487 ≤ j ∧ j < 487 + 4 * k) ∨ (535 ≤ j ∧ j < 535 + 2 * c)) : adL W k c x j = W j := by
  unfold adL
  rw [if_neg (by omega), if_neg (by omega), if_neg (by omega), if_neg (by omega), if_neg (by omega)]
theorem psL_s (W : VV) (n : Nat) : psL W (n + 1) = psL W n + (if lwF W n = lwT W n then 2 else lwT W n - lwF W n + 1) := rfl
theorem psL_cg2 {W W' : VV} {n : Nat} (h : ∀ i : Nat, i < n → lwF W' i = lwF W i ∧ lwT W' i = lwT W i) : psL W' n = psL W n := fd_ext fun x i hi => by
  have := h i hi
  rw [this.1, this.2]
/-- the steps of a line as they lie in the class -/
def LN1 (g : GG) (t : Int) (W : VV) (n : Nat) : Prop := g (t + 1 + 0) (psL W (n + 1) - 1) = (8 + lwW W n) * 1000 + lwN W n ∧ (lwF W n = lwT W n → g (t + 1 + 0) (psL W n) = 1) ∧
  ∀ k : Nat, (k : Int) < lwT W n - lwF W n → g (t + 1 + 0) (psL W n + k) = csW (lwC W (lwF W n + k)) (lwA W (lwF W n + k))
/-- the lines so far are such -/
def LV (W : VV) (c k : Int) : Prop := (0 ≤ k ∧ k ≤ 12 ∧ 0 ≤ c) ∧ ∀ n : Nat, (n : Int) < k → okL W n ∧ lwT W n ≤ c
theorem okL_cgx {W W' : VV} {n : Int} (h : okL W n) (hl : lwW W' n = lwW W n ∧ lwN W' n = lwN W n ∧ lwF W' n = lwF W n ∧ lwT W' n = lwT W n) (hc : ∀ i, lwF W n ≤ i → i < lwT W n → lwC W' i = lwC W i ∧ lwA W' i = lwA W i) : okL W' n := by
  obtain ⟨h1, h2, h3, h4, h5⟩ := h
  obtain ⟨l1, l2, l3, l4⟩ := hl
  unfold okL
  rw [l1, l2, l3, l4]
  have e : ∀ k : Nat, (k : Int) ≤ lwT W n - lwF W n → tkS (fun i => lwC W' (lwF W n + i)) k = tkS (fun i => lwC W (lwF W n + i)) k := fun k hk => tkS_cg fun j hj => (hc _ (by omega) (by omega)).1
  refine ⟨h1, h2, h3, fun z => ?_, fun i i0 i1 c10 => ?_⟩
  · have := h4 z
    rw [e _ (by omega)]
    exact ⟨this.1, fun k ty hk ht => this.2 k ty hk (by rw [← e k hk]; exact ht)⟩
  · rw [(hc i i0 i1).1] at c10
    rw [(hc i i0 i1).2]
    exact h5 i i0 i1 c10
theorem LV.add {W : VV} {c k : Int} {x : Int × Int × QQ} (h : LV W c k) (k12 : k < 12) (hw : 0 ≤ x.1 ∧ x.1 ≤ 2) (hn : 0 ≤ x.2.1 ∧ x.2.1 ≤ 40) (hq : x.2.2.1 = 0 ∨ GQ x.2.2 [true]) (q0 : 0 ≤ x.2.2.1) (hc : c + x.2.2.1 ≤ 400) : LV (adL W k c x) (c + x.2.2.1) (k + 1) := by
  obtain ⟨⟨k0, k1, c0⟩, h2⟩ := h
  refine ⟨⟨by omega, by omega, by omega⟩, fun n hn' => ?_⟩
  by_cases e : (n : Int) = k
  · obtain ⟨l1, l2, l3, l4⟩ := adL_line (W := W) (x := x) k0 k12 c0
    have hcd := fun (i : Int) i0 i1 => adL_code (W := W) (k := k) (x := x) k12 c0 (i := i) i0 i1
    rw [e]
    refine ⟨?_, by rw [l4]; omega⟩
    unfold okL
    rw [l1, l2, l3, l4]
    refine ⟨hw, hn, ⟨by omega, by omega, by omega⟩, fun z => ?_, fun i i0 i1 c10 => ?_⟩
    · have gq : GQ x.2.2 [true] := hq.elim (fun w => by omega) id
      have et : ∀ m : Nat, (m : Int) ≤ x.2.2.1 → tkS (fun i => lwC (adL W k c x) (c + i)) m = tkS x.2.2.2.1 m := fun m hm => tkS_cg fun j hj => (hcd j (by omega) (by omega)).1
      rw [show c + x.2.2.1 - c = x.2.2.1 by omega]
      rw [et _ (by omega)]
      exact ⟨gq.2.1, fun m ty hm ht => gq.2.2.1 m hm ty (by rw [← et m hm]; exact ht)⟩
    · have gq : GQ x.2.2 [true] := hq.elim (fun w => by omega) id
      have hh := hcd (i - c) (by omega) (by omega)
      rw [show c + (i - c) = i by omega] at hh
      rw [hh.1] at c10
      rw [hh.2]
      exact (gq.2.2.2 (i - c) (by omega) (by omega)).2 c10
  · have hh := h2 n (by omega)
    have hb := hh.1.2.2.1
    have old := fun j hj => adL_old (W := W) (k := k) (c := c) (x := x) k12 c0 j hj
    refine ⟨okL_cgx hh.1 ⟨old _ (by omega), old _ (by omega), old _ (by omega), old _ (by omega)⟩ (fun i i0 i1 => ⟨old _ (by omega), old _ (by omega)⟩), ?_⟩
    have : lwT (adL W k c x) n = lwT W n := old _ (by omega)
    rw [this]
    omega
section LT9
variable {S N : Int → Int} {T P : Int → Int} {L n : Int}
/-- a line's codes are no more than its signs -/
theorem ll_ok (hS : TS T L n S P N) (F : Nat) {a : Int} (a0 : 0 ≤ a) (a1 : a ≤ n) : (a ≤ (llR S N F a).2.1 ∧ (llR S N F a).2.1 ≤ n) ∧ ((llR S N F a).1 = true → (0 ≤ (llR S N F a).2.2.1 ∧ (llR S N F a).2.2.1 ≤ 2) ∧ (0 ≤ (llR S N F a).2.2.2.1 ∧ (llR S N F a).2.2.2.1 ≤ 40) ∧ ((llR S N F a).2.2.2.2.1 = 0 ∨ GQ (llR S N F a).2.2.2.2 [true]) ∧ 0 ≤ (llR S N F a).2.2.2.2.1 ∧ a + (if (llR S N F a).2.2.2.2.1 = 0 then 2 else (llR S N F a).2.2.2.2.1 + 3) ≤ (llR S N F a).2.1) := by
  unfold llR
  by_cases c : 1017 ≤ S a ∧ S a ≤ 1019
  · rw [if_pos c]
    have al : a < n := hS.lt a1 (by omega)
    by_cases c2 : isN S N (a + 1) 0 40
    · rw [if_pos c2]
      have al1 : a + 1 < n := hS.lt (by omega) (by have := c2.1; omega)
      by_cases c3 : S (a + 2) = 1004
      · rw [if_pos c3]
        have al2 : a + 2 < n := hS.lt (by omega) (by omega)
        have r := cd_ok hS F 0 0 (a + 3) qq0 [] (by decide) (by decide) (by decide) (by omega) (by omega) (show (0 : Int) ≤ 2 * 0 + 0 by decide) ⟨Int.le_refl 0, rfl, fun k hk t kt => by
          have : k = 0 := by have hk : (k : Int) ≤ 0 := hk; omega
          subst this
          cases kt
          decide, fun i i0 i1 => absurd i1 (by show ¬ i < 0; omega)⟩
        generalize cdR S N F 0 0 (a + 3) qq0 = x at r ⊢
        refine ⟨⟨by show a ≤ x.2.1; omega, r.1.2⟩, fun z => ?_⟩
        have rz := r.2 z
        have e0 : qq0.1 = 0 := rfl
        rw [e0] at rz
        have g0 := rz.1.1
        refine ⟨⟨by show 0 ≤ S a - 1017; omega, by show S a - 1017 ≤ 2; omega⟩, c2.2, Or.inr rz.1, g0, ?_⟩
        show a + (if x.2.2.1 = 0 then 2 else x.2.2.1 + 3) ≤ x.2.1
        by_cases w : x.2.2.1 = 0
        · rw [if_pos w]; omega
        · rw [if_neg w]; omega
      · rw [if_neg c3]
        refine ⟨⟨by show a ≤ a + 2; omega, by show a + 2 ≤ n; omega⟩, fun _ => ⟨⟨by show 0 ≤ S a - 1017; omega, by show S a - 1017 ≤ 2; omega⟩, c2.2, Or.inl rfl, Int.le_refl 0, ?_⟩⟩
        show a + (if (0 : Int) = 0 then 2 else 0 + 3) ≤ a + 2
        rw [if_pos rfl]
        omega
    · rw [if_neg c2]
      exact ⟨⟨by show a ≤ a + 1; omega, by show a + 1 ≤ n; omega⟩, fun z => absurd z Bool.false_ne_true⟩
  · rw [if_neg c]
    exact ⟨⟨Int.le_refl _, a1⟩, fun z => absurd z Bool.false_ne_true⟩
end LT9
