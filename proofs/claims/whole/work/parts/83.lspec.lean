/-! A TEXT OF THE LAW: what it comes to -/
/-- codes told so far: how many, which, their numbers -/
abbrev QQ : Type := Int × (Int → Int) × (Int → Int)
def adQ (q : QQ) (c x : Int) : QQ := (q.1 + 1, upV q.2.1 q.1 c, upV q.2.2 q.1 x)
abbrev RQ : Type := Bool × Int × QQ
abbrev isPt (S : Int → Int) (a : Int) : Prop := S a = 1036 ∨ (0 ≤ sgF (S a) ∧ sgF (S a) ≤ 6)
def ptQ (S N : Int → Int) (a : Int) (q : QQ) : QQ := if S a = 1036 then adQ q 10 (N a) else adQ q (sgF (S a)) 0
def smL (S N : Int → Int) : Nat → Int → QQ → RQ
  | 0, a, q => (false, a, q)
  | f + 1, a, q => if S a = 1035 then (if isPt S (a + 1) then smL S N f (a + 2) (adQ (ptQ S N (a + 1) q) 11 0) else (false, a + 1, q)) else (true, a, q)
def smR (S N : Int → Int) (a : Int) (q : QQ) : RQ := if isPt S a then smL S N 401 (a + 1) (ptQ S N a q) else (false, a, q)
def cmR (S N : Int → Int) (a : Int) (q : QQ) : RQ :=
  let r := smR S N a q
  if r.1 = true then
    (if S r.2.1 = 1033 ∨ S r.2.1 = 1034 then
      (let s := smR S N (r.2.1 + 1) r.2.2
       if s.1 = true then (true, s.2.1, adQ s.2.2 (if S r.2.1 = 1033 then 12 else 13) 0) else s)
     else (false, r.2.1, r.2.2))
  else r
/-- conditions: 0 with or, 1 with and, 2 one; 3, 4 what follows by or, and -/
def cdR (S N : Int → Int) : Nat → Nat → Int → Int → QQ → RQ
  | 0, _, _, a, q => (false, a, q)
  | F + 1, md, dp, a, q =>
    if md = 0 then (let r := cdR S N F 1 dp a q
      if r.1 = true then cdR S N F 3 dp r.2.1 r.2.2 else r)
    else if md = 1 then (let r := cdR S N F 2 dp a q
      if r.1 = true then cdR S N F 4 dp r.2.1 r.2.2 else r)
    else if md = 3 then (if S a = 1020 then (let r := cdR S N F 1 dp (a + 1) q
      if r.1 = true then cdR S N F 3 dp r.2.1 (adQ r.2.2 16 0) else r) else (true, a, q))
    else if md = 4 then (if S a = 1021 then (let r := cdR S N F 2 dp (a + 1) q
      if r.1 = true then cdR S N F 4 dp r.2.1 (adQ r.2.2 15 0) else r) else (true, a, q))
    else if S a = 1005 then (if 6 ≤ dp then (false, a, q) else (let r := cdR S N F 2 (dp + 1) (a + 1) q
      if r.1 = true then (true, r.2.1, adQ r.2.2 14 0) else r))
    else if S a = 1031 then (if 6 ≤ dp then (false, a, q) else (let r := cdR S N F 0 (dp + 1) (a + 1) q
      if r.1 = true then (if S r.2.1 = 1032 then (true, r.2.1 + 1, r.2.2) else (false, r.2.1, r.2.2)) else r))
    else if S a = 1022 ∨ S a = 1023 ∨ S a = 1024 then (true, a + 1, adQ q (sgF (S a)) 0)
    else cmR S N a q
theorem tkS_cg2 {f f' : Int → Int} : ∀ {k : Nat}, (∀ i : Nat, i < k → f i = f' i) → tkS f k = tkS f' k
  | 0, _ => rfl
  | k + 1, h => by
    unfold tkS
    rw [tkS_cg2 (k := k) fun i hi => h i (by omega), h k (by omega)]
/-- codes that are such: what they leave on the stack -/
def GQ (q : QQ) (ty : List Bool) : Prop := 0 ≤ q.1 ∧ tkS q.2.1 q.1.toNat = some ty ∧ (∀ k : Nat, (k : Int) ≤ q.1 → ∀ t, tkS q.2.1 k = some t → t.length ≤ 31) ∧ ∀ i, 0 ≤ i → i < q.1 → (0 ≤ q.2.1 i ∧ q.2.1 i ≤ 16) ∧ (q.2.1 i = 10 → 0 ≤ q.2.2 i ∧ q.2.2 i ≤ 999)
theorem GQ.add {q : QQ} {ty ty' : List Bool} {c x : Int} (h : GQ q ty) (ht : tyS ty c = some ty') (hl : ty'.length ≤ 31) (c0 : 0 ≤ c) (c1 : c ≤ 16) (hx : c = 10 → 0 ≤ x ∧ x ≤ 999) : GQ (adQ q c x) ty' := by
  obtain ⟨h0, h1, h2, h3⟩ := h
  have e : ∀ k : Nat, (k : Int) ≤ q.1 → tkS (upV q.2.1 q.1 c) k = tkS q.2.1 k := fun k hk => tkS_cg2 fun i hi => upV_ne (by omega)
  have ek : (q.1 + 1).toNat = q.1.toNat + 1 := by omega
  have en : tkS (upV q.2.1 q.1 c) (q.1.toNat + 1) = some ty' := by
    unfold tkS
    rw [e _ (by omega), h1, show (q.1.toNat : Int) = q.1 by omega, upV_eq]
    exact ht
  refine ⟨by show 0 ≤ q.1 + 1; omega, ?_, fun k hk t kt => ?_, fun i i0 i1 => ?_⟩
  · show tkS (upV q.2.1 q.1 c) (q.1 + 1).toNat = some ty'
    rw [ek]; exact en
  · have hk : (k : Int) ≤ q.1 + 1 := hk
    have kt : tkS (upV q.2.1 q.1 c) k = some t := kt
    by_cases z : (k : Int) ≤ q.1
    · rw [e k z] at kt
      exact h2 k z t kt
    · rw [show k = q.1.toNat + 1 by omega, en] at kt
      cases kt
      exact hl
  · have i1 : i < q.1 + 1 := i1
    show (0 ≤ upV q.2.1 q.1 c i ∧ upV q.2.1 q.1 c i ≤ 16) ∧ (upV q.2.1 q.1 c i = 10 → 0 ≤ upV q.2.2 q.1 x i ∧ upV q.2.2 q.1 x i ≤ 999)
    by_cases z : i = q.1
    · rw [z, upV_eq, upV_eq]; exact ⟨⟨c0, c1⟩, hx⟩
    · rw [upV_ne z, upV_ne z]; exact h3 i i0 (by omega)
section LS
variable {S N : Int → Int} {T P : Int → Int} {L n : Int}
theorem pt_ok (hS : TS T L n S P N) {a : Int} {q : QQ} {ty : List Bool} (a0 : 0 ≤ a) (a1 : a ≤ n) (hp : isPt S a) (h : GQ q ty) (hl : ty.length ≤ 30) : GQ (ptQ S N a q) (false :: ty) ∧ (ptQ S N a q).1 = q.1 + 1 := by
  unfold ptQ
  by_cases c : S a = 1036
  · rw [if_pos c]
    exact ⟨h.add rfl (by simp only [List.length_cons]; omega) (by decide) (by decide) (fun _ => hS.n9 a0 a1 c), rfl⟩
  · rw [if_neg c]
    have hp : 0 ≤ sgF (S a) ∧ sgF (S a) ≤ 6 := hp.elim (fun z => absurd z c) id
    refine ⟨h.add ?_ (by simp only [List.length_cons]; omega) hp.1 (by omega) (fun z => by omega), rfl⟩
    unfold tyS
    rw [if_neg (by omega), if_pos hp.2]
theorem pt_lt (hS : TS T L n S P N) {a : Int} (a1 : a ≤ n) (hp : isPt S a) : a < n := by
  refine hS.lt a1 fun z => ?_
  rcases hp with hp | hp
  · omega
  · rw [z] at hp
    exact absurd hp (by decide +kernel)
theorem smL_ok (hS : TS T L n S P N) : ∀ (f : Nat) (a : Int) (q : QQ) (ty : List Bool), 0 ≤ a → a ≤ n → GQ q (false :: ty) → ty.length ≤ 29 → (a ≤ (smL S N f a q).2.1 ∧ (smL S N f a q).2.1 ≤ n) ∧ ((smL S N f a q).1 = true → GQ (smL S N f a q).2.2 (false :: ty) ∧ a + (smL S N f a q).2.2.1 ≤ (smL S N f a q).2.1 + q.1) := by
  intro f
  induction f with
  | zero => intro a q ty a0 a1 h hl; exact ⟨⟨Int.le_refl _, a1⟩, fun z => absurd z Bool.false_ne_true⟩
  | succ f ih =>
    intro a q ty a0 a1 h hl
    unfold smL
    by_cases c : S a = 1035
    · rw [if_pos c]
      have an : a < n := hS.lt a1 (by omega)
      by_cases c2 : isPt S (a + 1)
      · rw [if_pos c2]
        have an1 := pt_lt hS (a := a + 1) (by omega) c2
        have k := pt_ok hS (a := a + 1) (by omega) (by omega) c2 h (by simp only [List.length_cons]; omega)
        have k2 := k.1.add (c := 11) (x := 0) (ty' := false :: ty) rfl (by simp only [List.length_cons]; omega) (by decide) (by decide) (fun z => absurd z (by decide))
        have r := ih (a + 2) (adQ (ptQ S N (a + 1) q) 11 0) ty (by omega) (by omega) k2 hl
        have e : (adQ (ptQ S N (a + 1) q) 11 0).1 = q.1 + 2 := by
          show (ptQ S N (a + 1) q).1 + 1 = q.1 + 2
          rw [k.2]; omega
        rw [e] at r
        exact ⟨⟨by omega, r.1.2⟩, fun z => ⟨(r.2 z).1, by have := (r.2 z).2; omega⟩⟩
      · rw [if_neg c2]
        exact ⟨⟨by show a ≤ a + 1; omega, by show a + 1 ≤ n; omega⟩, fun z => absurd z Bool.false_ne_true⟩
    · rw [if_neg c]
      exact ⟨⟨Int.le_refl _, a1⟩, fun _ => ⟨h, Int.le_refl _⟩⟩
theorem smR_ok (hS : TS T L n S P N) {a : Int} {q : QQ} {ty : List Bool} (a0 : 0 ≤ a) (a1 : a ≤ n) (h : GQ q ty) (hl : ty.length ≤ 29) : (a ≤ (smR S N a q).2.1 ∧ (smR S N a q).2.1 ≤ n) ∧ ((smR S N a q).1 = true → GQ (smR S N a q).2.2 (false :: ty) ∧ a + (smR S N a q).2.2.1 ≤ (smR S N a q).2.1 + q.1 ∧ a < (smR S N a q).2.1) := by
  unfold smR
  by_cases c : isPt S a
  · rw [if_pos c]
    have an := pt_lt hS a1 c
    have k := pt_ok hS a0 a1 c h (by omega)
    have r := smL_ok hS 401 (a + 1) _ ty (by omega) (by omega) k.1 hl
    rw [k.2] at r
    exact ⟨⟨by omega, r.1.2⟩, fun z => ⟨(r.2 z).1, by have := (r.2 z).2; omega, by omega⟩⟩
  · rw [if_neg c]
    exact ⟨⟨Int.le_refl _, a1⟩, fun z => absurd z Bool.false_ne_true⟩
theorem cmR_ok (hS : TS T L n S P N) {a : Int} {q : QQ} {ty : List Bool} (a0 : 0 ≤ a) (a1 : a ≤ n) (h : GQ q ty) (hl : ty.length ≤ 28) : (a ≤ (cmR S N a q).2.1 ∧ (cmR S N a q).2.1 ≤ n) ∧ ((cmR S N a q).1 = true → GQ (cmR S N a q).2.2 (true :: ty) ∧ a + (cmR S N a q).2.2.1 ≤ (cmR S N a q).2.1 + q.1 ∧ a < (cmR S N a q).2.1) := by
  have r := smR_ok hS a0 a1 h (by omega)
  unfold cmR
  generalize smR S N a q = x at r ⊢
  simp only
  by_cases z : x.1 = true
  · rw [if_pos z]
    by_cases c : S x.2.1 = 1033 ∨ S x.2.1 = 1034
    · rw [if_pos c]
      have an : x.2.1 < n := hS.lt r.1.2 (by omega)
      have rz := r.2 z
      have s := smR_ok hS (a := x.2.1 + 1) (by omega) (by omega) rz.1 (by simp only [List.length_cons]; omega)
      generalize smR S N (x.2.1 + 1) x.2.2 = y at s ⊢
      by_cases w : y.1 = true
      · rw [if_pos w]
        have sw := s.2 w
        have cc : (if S x.2.1 = 1033 then (12 : Int) else 13) = 12 ∨ (if S x.2.1 = 1033 then (12 : Int) else 13) = 13 := by
          by_cases q : S x.2.1 = 1033
          · rw [if_pos q]; exact Or.inl rfl
          · rw [if_neg q]; exact Or.inr rfl
        generalize (if S x.2.1 = 1033 then (12 : Int) else 13) = k at cc ⊢
        have k2 := sw.1.add (c := k) (x := 0) (ty' := true :: ty) (by rcases cc with rfl | rfl <;> rfl) (by simp only [List.length_cons]; omega) (by omega) (by omega) (fun q => by omega)
        refine ⟨⟨?_, s.1.2⟩, fun _ => ⟨k2, ?_, ?_⟩⟩
        · show a ≤ y.2.1; omega
        · show a + (y.2.2.1 + 1) ≤ y.2.1 + q.1; omega
        · show a < y.2.1; omega
      · rw [if_neg w]
        exact ⟨⟨by omega, s.1.2⟩, fun q => absurd q w⟩
    · rw [if_neg c]
      exact ⟨r.1, fun q => absurd q Bool.false_ne_true⟩
  · rw [if_neg z]
    exact ⟨r.1, fun q => absurd q z⟩
end LS
