/-! THE LAW: its codes, what they come to; the class's steps -/
/-- the class's step of a code -/
def csW (c a : Int) : Int := if c ≤ 9 then 1000 + c else if c = 10 then a else if c = 11 then 2000 else if c = 12 then 3000 else if c = 13 then 4000 else if c = 14 then 5000 else if c = 15 then 6000 else 7000
def jnS (c x y : Int) : Int := if c = 11 then x + y else if c = 12 then (if wr x < wr y then 1 else 0) else if c = 13 then (if wr y < wr x then 1 else 0) else if c = 15 then (if x + y = 2 then 1 else 0) else (if 0 < x + y then 1 else 0)
def evS (fc : Int → Int) (st : List Int) (c a : Int) : List Int := if c ≤ 9 then fc c :: st else if c = 10 then a :: st else match st with
  | [] => []
  | [x] => [1 - x]
  | y :: x :: r => if c = 14 then (1 - y) :: x :: r else jnS c x y :: r
/-- which of what stands on the stack is true or not -/
def tyS (ty : List Bool) (c : Int) : Option (List Bool) := if c < 0 then none else if c ≤ 6 then some (false :: ty) else if c ≤ 9 then some (true :: ty) else if c = 10 then some (false :: ty) else if c = 14 then (match ty with
    | true :: r => some (true :: r)
    | _ => none) else if c = 11 then (match ty with
    | false :: false :: r => some (false :: r)
    | _ => none) else if c = 12 ∨ c = 13 then (match ty with
    | false :: false :: r => some (true :: r)
    | _ => none) else if c = 15 ∨ c = 16 then (match ty with
    | true :: true :: r => some (true :: r)
    | _ => none) else none
def tkS (q : Int → Int) : Nat → Option (List Bool)
  | 0 => some []
  | k + 1 => match tkS q k with
    | none => none
    | some ty => tyS ty (q k)
def stS (fc : Int → Int) (q a : Int → Int) (k : Nat) : List Int := fd (fun st i => evS fc st (q i) (a i)) [] k
def tyd : List Int → List Bool → Prop
  | [], [] => True
  | x :: r, b :: q => (b = true → x = 0 ∨ x = 1) ∧ tyd r q
  | _, _ => False
theorem tyd_len : ∀ {st : List Int} {ty : List Bool}, tyd st ty → st.length = ty.length
  | [], [], _ => rfl
  | x :: r, b :: q, h => by simp only [List.length_cons, tyd_len h.2]
  | [], _ :: _, h => h.elim
  | _ :: _, [], h => h.elim
/-- facts that are true or not -/
def okF (fc : Int → Int) : Prop := ∀ c, 7 ≤ c → c ≤ 9 → fc c = 0 ∨ fc c = 1
/-- the forms of a step -/
theorem tyS_cases {fc : Int → Int} (hf : okF fc) {st : List Int} {ty ty' : List Bool} {c a : Int} (ht : tyd st ty) (h : tyS ty c = some ty') {P : Prop}
    (h1 : 0 ≤ c → c ≤ 9 → evS fc st c a = fc c :: st → tyd (fc c :: st) ty' → P)
    (h2 : c = 10 → evS fc st c a = a :: st → tyd (a :: st) ty' → P)
    (h3 : ∀ x r, c = 14 → st = x :: r → (x = 0 ∨ x = 1) → evS fc st c a = (1 - x) :: r → tyd ((1 - x) :: r) ty' → P)
    (h4 : ∀ y x r, (c = 11 ∨ c = 12 ∨ c = 13 ∨ c = 15 ∨ c = 16) → st = y :: x :: r → ((c = 15 ∨ c = 16) → (x = 0 ∨ x = 1) ∧ (y = 0 ∨ y = 1)) → evS fc st c a = jnS c x y :: r → tyd (jnS c x y :: r) ty' → P) : P := by
  unfold tyS at h
  by_cases q0 : c < 0
  · rw [if_pos q0] at h; cases h
  rw [if_neg q0] at h
  by_cases q6 : c ≤ 6
  · rw [if_pos q6] at h
    cases h
    exact h1 (by omega) (by omega) (if_pos (by omega)) ⟨(fun e => by cases e), ht⟩
  rw [if_neg q6] at h
  by_cases q9 : c ≤ 9
  · rw [if_pos q9] at h
    cases h
    exact h1 (by omega) (by omega) (if_pos (by omega)) ⟨fun _ => hf c (by omega) q9, ht⟩
  rw [if_neg q9] at h
  by_cases q10 : c = 10
  · rw [if_pos q10] at h
    cases h
    refine h2 q10 ?_ ⟨(fun e => by cases e), ht⟩
    unfold evS
    rw [if_neg q9, if_pos q10]
  rw [if_neg q10] at h
  by_cases q14 : c = 14
  · rw [if_pos q14] at h
    match ty, ht, h with
    | true :: q, ht, h =>
      match st, ht with
      | x :: r, ht =>
        cases h
        have hx := ht.1 rfl
        refine h3 x r q14 rfl hx ?_ ⟨fun _ => by omega, ht.2⟩
        unfold evS
        rw [if_neg q9, if_neg q10]
        match r with
        | [] => rfl
        | x' :: r' => exact if_pos q14
  rw [if_neg q14] at h
  have ev : ∀ y x r, st = y :: x :: r → evS fc st c a = jnS c x y :: r := by
    intro y x r e
    subst e
    unfold evS
    rw [if_neg q9, if_neg q10]
    exact if_neg q14
  by_cases q11 : c = 11
  · rw [if_pos q11] at h
    match ty, ht, h with
    | false :: false :: q, ht, h =>
      match st, ht, ev with
      | y :: x :: r, ht, ev =>
        cases h
        exact h4 y x r (by omega) rfl (fun e => by omega) (ev _ _ _ rfl) ⟨(fun e => by cases e), ht.2.2⟩
  rw [if_neg q11] at h
  by_cases q12 : c = 12 ∨ c = 13
  · rw [if_pos q12] at h
    match ty, ht, h with
    | false :: false :: q, ht, h =>
      match st, ht, ev with
      | y :: x :: r, ht, ev =>
        cases h
        refine h4 y x r (by omega) rfl (fun e => by omega) (ev _ _ _ rfl) ⟨fun _ => ?_, ht.2.2⟩
        unfold jnS
        rw [if_neg q11]
        by_cases z : c = 12
        · rw [if_pos z]; by_cases w : wr x < wr y
          · rw [if_pos w]; exact Or.inr rfl
          · rw [if_neg w]; exact Or.inl rfl
        · rw [if_neg z, if_pos (by omega)]; by_cases w : wr y < wr x
          · rw [if_pos w]; exact Or.inr rfl
          · rw [if_neg w]; exact Or.inl rfl
  rw [if_neg q12] at h
  by_cases q15 : c = 15 ∨ c = 16
  · rw [if_pos q15] at h
    match ty, ht, h with
    | true :: true :: q, ht, h =>
      match st, ht, ev with
      | y :: x :: r, ht, ev =>
        cases h
        have hy := ht.1 rfl
        have hx := ht.2.1 rfl
        refine h4 y x r (by omega) rfl (fun _ => ⟨hx, hy⟩) (ev _ _ _ rfl) ⟨fun _ => ?_, ht.2.2⟩
        unfold jnS
        rw [if_neg q11, if_neg (by omega), if_neg (by omega)]
        by_cases z : c = 15
        · rw [if_pos z]; by_cases w : x + y = 2
          · rw [if_pos w]; exact Or.inr rfl
          · rw [if_neg w]; exact Or.inl rfl
        · rw [if_neg z]; by_cases w : 0 < x + y
          · rw [if_pos w]; exact Or.inr rfl
          · rw [if_neg w]; exact Or.inl rfl
  · rw [if_neg q15] at h; cases h
theorem stS_ty {fc : Int → Int} (hf : okF fc) {q a : Int → Int} : ∀ {k : Nat} {ty : List Bool}, tkS q k = some ty → tyd (stS fc q a k) ty
  | 0, ty, h => by
    cases h
    exact trivial
  | k + 1, ty, h => by
    unfold tkS at h
    cases hz : tkS q k with
    | none => rw [hz] at h; cases h
    | some t0 =>
      rw [hz] at h
      have h0 := stS_ty hf (a := a) hz
      show tyd (evS fc (stS fc q a k) (q k) (a k)) ty
      refine tyS_cases hf (a := a k) h0 h (fun _ _ e t => ?_) (fun _ e t => ?_) (fun x r _ _ _ e t => ?_) (fun y x r _ _ _ e t => ?_)
      all_goals rw [e]; exact t
theorem tkS_le {q : Int → Int} {k : Nat} {ty : List Bool} (h : tkS q k = some ty) : ∀ j, j ≤ k → ∃ t0, tkS q j = some t0 := by
  induction k generalizing ty with
  | zero =>
    intro j hj
    have : j = 0 := by omega
    rw [this]
    exact ⟨_, rfl⟩
  | succ k ih =>
    intro j hj
    unfold tkS at h
    cases hz : tkS q k with
    | none => rw [hz] at h; cases h
    | some t0 =>
      by_cases e : j = k + 1
      · rw [e]
        unfold tkS
        rw [hz] at h ⊢
        exact ⟨_, h⟩
      · exact ih hz j (by omega)
/-- lines of the law in the reference's row -/
def lwW (W : VV) (n : Int) : Int := W (487 + 4 * n)
def lwN (W : VV) (n : Int) : Int := W (487 + 4 * n + 1)
def lwF (W : VV) (n : Int) : Int := W (487 + 4 * n + 2)
def lwT (W : VV) (n : Int) : Int := W (487 + 4 * n + 3)
def lwC (W : VV) (i : Int) : Int := W (535 + 2 * i)
def lwA (W : VV) (i : Int) : Int := W (535 + 2 * i + 1)
/-- what stands on the stack behind k codes of a line -/
def lst (W : VV) (fc : Int → Int) (n : Int) (k : Nat) : List Int := stS fc (fun i => lwC W (lwF W n + i)) (fun i => lwA W (lwF W n + i)) k
def hlS (W : VV) (fc : Int → Int) (n : Int) : Bool := decide (lwF W n = lwT W n) || decide (lst W fc n (lwT W n - lwF W n).toNat = [1])
def okL (W : VV) (n : Int) : Prop := (0 ≤ lwW W n ∧ lwW W n ≤ 2) ∧ (0 ≤ lwN W n ∧ lwN W n ≤ 40) ∧ (0 ≤ lwF W n ∧ lwF W n ≤ lwT W n ∧ lwT W n ≤ 400) ∧
  (lwF W n < lwT W n → tkS (fun i => lwC W (lwF W n + i)) (lwT W n - lwF W n).toNat = some [true] ∧ ∀ (k : Nat) (ty : List Bool), (k : Int) ≤ lwT W n - lwF W n → tkS (fun i => lwC W (lwF W n + i)) k = some ty → ty.length ≤ 31) ∧
  (∀ i, lwF W n ≤ i → i < lwT W n → lwC W i = 10 → 0 ≤ lwA W i ∧ lwA W i ≤ 999)
def okLaw (W : VV) : Prop := (0 ≤ W 486 ∧ W 486 ≤ 12) ∧ (W 2 = 0 ∨ W 2 = 1) ∧ (W 2 = 0 → W 486 = 0) ∧ ∀ n, 0 ≤ n → n < W 486 → okL W n
/-- where a line begins in the class's steps -/
def psL (W : VV) (n : Nat) : Int := fd (fun p i => p + (if lwF W i = lwT W i then 2 else lwT W i - lwF W i + 1)) 0 n
def LRel (g : GG) (t : Int) (W : VV) : Prop := LA t ∧ (g t 3 = W 486 ∧ g t 4 = W 2 ∧ g t 2 = psL W (W 486).toNat ∧ psL W (W 486).toNat ≤ 400) ∧
  ∀ n : Nat, (n : Int) < W 486 → g (t + 1 + 0) (psL W (n + 1) - 1) = (8 + lwW W n) * 1000 + lwN W n ∧ (lwF W n = lwT W n → g (t + 1 + 0) (psL W n) = 1) ∧
    ∀ k : Nat, (k : Int) < lwT W n - lwF W n → g (t + 1 + 0) (psL W n + k) = csW (lwC W (lwF W n + k)) (lwA W (lwF W n + k))

def sL (W : VV) (fc : Int → Int) (w : Int) (n : Nat) : Int := fd (fun s i => if lwW W i = w ∧ hlS W fc i = true then s + lwN W i else s) 0 n
/-- the stack in the class's row -/
def SR (g : GG) (r : Int) : List Int → Prop
  | [] => True
  | x :: q => g r q.length = x ∧ SR g r q
theorem SR.push {g : GG} {r : Int} {x : Int} {n : Int} : ∀ {st : List Int}, SR g r st → (st.length : Int) ≤ n → SR (upd2 g r n x) r st
  | [], _, _ => trivial
  | y :: q, h, hn => by
    simp only [List.length_cons] at hn
    exact ⟨by rw [upd2_nj (by omega)]; exact h.1, SR.push h.2 (by omega)⟩
theorem SR.same {g g' : GG} {r : Int} : ∀ {st : List Int}, SR g r st → (∀ j, g' r j = g r j) → SR g' r st
  | [], _, _ => trivial
  | y :: q, h, e => ⟨by rw [e]; exact h.1, SR.same h.2 e⟩
/-- what the law's weighing writes -/
def onlyJ (g g' : GG) : Prop := ∀ a j, a ≠ 37 → ¬ (a = 35 ∧ 5 ≤ j) → g' a j = g a j
section JU
variable {Γ : Cfg} {l : Launch} {d b : Nat} {g : GG} {K : Ou → HP → Prop}
theorem k_join {c x y : Int} (hc : c = 11 ∨ c = 12 ∨ c = 13 ∨ c = 15 ∨ c = 16) (hb : (c = 15 ∨ c = 16) → (x = 0 ∨ x = 1) ∧ (y = 0 ∨ y = 1)) (kk : K (.inl (vI (jnS c x y))) (stt g)) : Ct Γ l d b yX4_join mX4_join [vI (csW c 0 / 1000), vI x, vI y] (stt g) K := by
  apply wpX4_join
  unfold jnS at kk
  rcases hc with rfl | rfl | rfl | rfl | rfl
  · rw [show wr (csW 11 0 / 1000) = 2 by decide +kernel]
    exact ⟨fun h => absurd rfl h, fun _ => kk⟩
  · rw [show wr (csW 12 0 / 1000) = 3 by decide +kernel]
    refine ⟨fun _ => ⟨fun h => absurd rfl h, fun _ => ⟨fun h => ?_, fun h => ?_⟩⟩, fun h => absurd (by decide) h⟩
    · rw [if_neg (by decide), if_pos rfl, if_neg (by omega)] at kk; exact kk
    · rw [if_neg (by decide), if_pos rfl, if_pos (by omega)] at kk; exact kk
  · rw [show wr (csW 13 0 / 1000) = 4 by decide +kernel]
    refine ⟨fun _ => ⟨fun _ => ⟨fun h => absurd rfl h, fun _ => ⟨fun h => ?_, fun h => ?_⟩⟩, fun h => absurd (by decide) h⟩, fun h => absurd (by decide) h⟩
    · rw [if_neg (by decide), if_neg (by decide), if_pos rfl, if_neg (by omega)] at kk; exact kk
    · rw [if_neg (by decide), if_neg (by decide), if_pos rfl, if_pos (by omega)] at kk; exact kk
  · rw [show wr (csW 15 0 / 1000) = 6 by decide +kernel]
    refine ⟨fun _ => ⟨fun _ => ⟨fun _ => ⟨fun h => absurd rfl h, fun _ => ?_⟩, fun h => absurd (by decide) h⟩, fun h => absurd (by decide) h⟩, fun h => absurd (by decide) h⟩
    rw [if_neg (by decide), if_neg (by decide), if_neg (by decide), if_pos rfl] at kk
    obtain ⟨hx | hx, hy | hy⟩ := hb (Or.inl rfl) <;> subst hx <;> subst hy <;> exact kk
  · rw [show wr (csW 16 0 / 1000) = 7 by decide +kernel]
    refine ⟨fun _ => ⟨fun _ => ⟨fun _ => ⟨fun _ => ?_, fun h => absurd (by decide) h⟩, fun h => absurd (by decide) h⟩, fun h => absurd (by decide) h⟩, fun h => absurd (by decide) h⟩
    rw [if_neg (by decide), if_neg (by decide), if_neg (by decide), if_neg (by decide)] at kk
    obtain ⟨hx | hx, hy | hy⟩ := hb (Or.inr rfl) <;> subst hx <;> subst hy <;> exact kk
theorem csW_div {c a : Int} (h0 : 0 ≤ c) (h1 : c ≤ 16) (ha : c = 10 → 0 ≤ a ∧ a ≤ 999) : iDiv (csW c a) 1000 = (if c ≤ 9 then 1 else if c = 10 then 0 else if c = 14 then 5 else csW c 0 / 1000) ∧ iRem (csW c a) 1000 = (if c ≤ 9 then c else if c = 10 then a else 0) := by
  have hr : 0 ≤ csW c a ∧ csW c a ≤ 7000 := by
    unfold csW
    omega
  rw [iDiv_nn (by omega) (by omega) (by decide) (by decide), iRem_nn (by omega) (by omega) (by decide) (by decide)]
  unfold csW
  omega
/-- a code that is no line's end -/
theorem j_code {t r1 i : Int} {st : List Int} {ty ty' : List Bool} {c a : Int} {fc : Int → Int} {g2 : GG} (ht : t = 35) (hr1 : IA r1) (hlen : st.length ≤ 31) (i0 : 0 ≤ i) (i1 : i < 400) (i2 : i < g2 35 2) (i3 : g2 35 2 ≤ 400) (hf : okF fc) (htd : tyd st ty) (hty : tyS ty c = some ty') (c1 : c ≤ 16) (ha : c = 10 → 0 ≤ a ∧ a ≤ 999)
    (hs : g2 36 i = csW c a) (hfc : ∀ c, 0 ≤ c → c ≤ 9 → cel g2 r1 c = fc c) (hsr : SR g2 37 st)
    (hi : ∀ g3, SR g3 37 (evS fc st c a) → (∀ x j, x ≠ 37 → g3 x j = g2 x j) → AW Γ l mX4_judge (d + 1) b 19 [vR 35, vR r1, vI (evS fc st c a).length, vI (i + 1), vU, vU] [] (stt g3) K) :
    AW Γ l mX4_judge (d + 1) b 19 [vR 35, vR r1, vI st.length, vI i, vU, vU] [] (stt g2) K := by
  have l36 : ln 36 = 400 := by decide +kernel
  have l37 : ln 37 = 32 := by decide +kernel
  have c0 : 0 ≤ c := by
    refine tyS_cases hf (a := a) htd hty (fun h _ _ _ => h) (fun h _ _ => by omega) (fun _ _ h _ _ _ _ => by omega) (fun _ _ _ h _ _ _ _ => by omega)
  have hd := csW_div c0 c1 ha
  have hcel : cel g2 (35 + 1 + 0) i = csW c a := by
    rw [cel_in i0 (by show i < ln 36; rw [l36]; exact i1)]
    exact hs
  apply wpX4_judge_19 LA35 hr1
  rw [hcel, hd.1, hd.2, wr_id (x := i) (by omega) (by omega), wr_id (x := g2 35 2) (by omega) (by omega)]
  refine ⟨fun h => absurd h (by omega), fun _ => ?_⟩
  have pin : ∀ {n x : Int}, 0 ≤ n → n < 32 → puc g2 (35 + 1 + 1) n x = upd2 g2 37 n x := fun h0 h1 => puc_in h0 (by show _ < ln 37; rw [l37]; exact h1)
  have cin : ∀ {n : Int}, 0 ≤ n → n < 32 → cel g2 (35 + 1 + 1) n = g2 37 n := fun h0 h1 => cel_in h0 (by show _ < ln 37; rw [l37]; exact h1)
  refine tyS_cases hf (a := a) htd hty (fun h0 h9 e _ => ?_) (fun h10 e _ => ?_) (fun x r h14 est hx e _ => ?_) (fun y x r hc est hb e _ => ?_)
  · rw [e] at hi
    simp only [if_pos h9]
    refine ⟨fun h => absurd h (by decide +kernel), fun _ => ⟨fun _ g5 e5 => ?_, fun h => absurd (by decide +kernel) h⟩⟩
    rw [pin (by omega) (by omega), hfc c h0 h9] at e5
    rw [e5]
    exact AW.weak (hi _ ⟨upd2_eq, hsr.push (Int.le_refl _)⟩ (fun x j hx => upd2_ne hx)) (by simp [leP])
  · rw [e] at hi
    subst h10
    refine ⟨fun h => absurd h (by decide +kernel), fun _ => ⟨fun h => absurd (by decide +kernel) h, fun _ g6 e6 => ?_⟩⟩
    rw [pin (by omega) (by omega)] at e6
    rw [e6]
    exact AW.weak (hi _ ⟨upd2_eq, hsr.push (Int.le_refl _)⟩ (fun x j hx => upd2_ne hx)) (by simp [leP])
  · subst h14
    subst est
    rw [e] at hi
    simp only [List.length_cons] at hlen hi ⊢
    refine ⟨fun _ => ⟨fun h => absurd (by decide +kernel) h, fun _ g4 e4 => ?_⟩, fun h => absurd (by decide +kernel) h⟩
    rw [show (((r.length + 1 : Nat) : Int)) - 1 = (r.length : Int) by omega, pin (by omega) (by omega), cin (by omega) (by omega), hsr.1] at e4
    rw [e4]
    exact AW.weak (hi _ ⟨upd2_eq, hsr.2.push (Int.le_refl _)⟩ (fun x j hx => upd2_ne hx)) (by simp [leP])
  · have hn : ¬ c ≤ 9 ∧ ¬ c = 10 ∧ ¬ c = 14 := by omega
    simp only [if_neg hn.1, if_neg hn.2.1, if_neg hn.2.2]
    have hq : 2 ≤ csW c 0 / 1000 ∧ csW c 0 / 1000 ≤ 7 ∧ csW c 0 / 1000 ≠ 5 := by
      unfold csW
      omega
    subst est
    rw [e] at hi
    simp only [List.length_cons] at hlen hi ⊢
    rw [wr_id (x := csW c 0 / 1000) (by omega) (by omega)]
    refine ⟨fun _ => ⟨fun _ => ⟨fun h => absurd h (by omega), fun _ => ?_⟩, fun h => absurd hq.2.2 h⟩, fun h => absurd (by omega) h⟩
    rw [show (((r.length + 1 + 1 : Nat) : Int)) + (-1) = (r.length : Int) + 1 by omega, show ((r.length : Int) + 1 - 1) = (r.length : Int) by omega, cin (by omega) (by omega), cin (by omega) (by omega)]
    have hy : g2 37 ((r.length : Int) + 1) = y := hsr.1
    have hx : g2 37 (r.length : Int) = x := hsr.2.1
    rw [hy, hx]
    refine k_join hc hb (bI_in fun g3 e3 => ?_)
    rw [pin (by omega) (by omega)] at e3
    rw [e3]
    exact AW.weak (hi _ ⟨upd2_eq, hsr.2.2.push (Int.le_refl _)⟩ (fun x j hx => upd2_ne hx)) (by simp [leP])
end JU
