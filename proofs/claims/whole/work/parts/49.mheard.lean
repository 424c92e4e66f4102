/-! WHOSE OATH IT WAS: the reference's side -/
def sb (x : Int) : Int := if x < 128 then x else x - 256
def MTp (g : GG) (T : Int → Int) : Prop := ∀ i, 0 ≤ i → i < 400 → (0 ≤ T i ∧ T i ≤ 255) ∧ g 177 i = sb (T i)
def mU (a j : Int) : Prop := mS a j ∧ ¬ (a = 171 ∧ j = 9)
def kV (g g' : GG) : Prop := (∀ a j, mU a j → g' a j = g a j) ∧ g' 171 9 = 0
theorem kV.th {g g' : GG} {c : Int} (h : kV g g') : kV g (upd2 g' 171 0 c) := by
  refine ⟨fun a j hs => ?_, ?_⟩
  · have e : ¬ (j = 0 ∧ a = 171) := fun e => by unfold mU mS at hs; omega
    show (if j = 0 ∧ a = 171 then c else g' a j) = g a j
    rw [if_neg e]
    exact h.1 a j hs
  · rw [upd2_nj (by decide)]; exact h.2
def mcU (g : GG) (s : Int × Int) (K : Ou → HP → Prop) : Prop := ∀ g', kV g g' → g' 171 0 = s.1 → K (.inl (vI s.2)) (stt g')
theorem mcU_fin {g g' : GG} {s : Int × Int} {c v : Int} {K : Ou → HP → Prop} (kk : mcU g s K) (e : s = (c, v)) (h : kV g g') (h0 : g' 171 0 = c) : K (.inl (vI v)) (stt g') := by
  subst e
  exact kk g' h h0
theorem ntz_s {s : Int} (s0 : 0 < s) (s1 : s < 64) : (0 ≤ iNTZ s ∧ iNTZ s < 6) ∧ bt s (iNTZ s) ∧ ∀ p, 0 ≤ p → p < iNTZ s → ¬ bt s p := by
  have h : (List.range 64).all (fun s => s == 0 || (decide (0 ≤ iNTZ (s : Int) ∧ iNTZ (s : Int) < 6) && s.testBit (iNTZ (s : Int)).toNat && (List.range 6).all (fun p => !(decide ((p : Int) < iNTZ (s : Int))) || !s.testBit p))) = true := by decide +kernel
  have := List.all_eq_true.mp h s.toNat (List.mem_range.mpr (by omega))
  rw [Bool.or_eq_true, Bool.and_eq_true, Bool.and_eq_true, decide_eq_true_iff, Int.toNat_of_nonneg (by omega), beq_iff_eq] at this
  rcases this with e | ⟨⟨e1, e2⟩, e3⟩
  · omega
  · refine ⟨e1, e2, fun p p0 p1 hb => ?_⟩
    have := List.all_eq_true.mp e3 p.toNat (List.mem_range.mpr (by omega))
    rw [Bool.or_eq_true, Int.toNat_of_nonneg p0] at this
    unfold bt at hb
    rw [hb] at this
    simp at this
    omega
theorem fit_0 {V : VV} (hV : WF V) (T : Int → Int) (m : Nat) (w : Int) : fitS V T m w = 0 ↔ ∀ q, 0 ≤ q → q < V 0 → ¬ wrS V T q m ≤ w := by
  have h6 := hV.1.1
  have h := fit_bt hV T m w
  refine ⟨fun e q q0 q1 c => ?_, fun hh => ?_⟩
  · have := (h.2 q q0 (by omega)).mpr ⟨q1, c⟩
    rw [e] at this
    exact bt_0 this
  · by_cases c : fitS V T m w = 0
    · exact c
    · have z := ntz_s (s := fitS V T m w) (by have := h.1; omega) h.1.2
      have := (h.2 _ z.1.1 z.1.2).mp z.2.1
      exact absurd this.2 (hh _ z.1.1 this.1)
/-- the likeliest one is the first of those that fit best -/
theorem likP_inv (V : VV) (T : Int → Int) (m : Nat) : ∀ n : Nat, ((likP V T m n) = (-1, 2) ∧ ∀ p, 0 ≤ p → p < (n : Int) → 2 ≤ wrS V T p m) ∨ ((0 ≤ (likP V T m n).1 ∧ (likP V T m n).1 < n) ∧ (likP V T m n).2 = wrS V T (likP V T m n).1 m ∧ (likP V T m n).2 < 2 ∧ (∀ p, 0 ≤ p → p < (likP V T m n).1 → (likP V T m n).2 < wrS V T p m) ∧ ∀ p, 0 ≤ p → p < (n : Int) → (likP V T m n).2 ≤ wrS V T p m) := fun n => by
  induction n with
  | zero => exact Or.inl ⟨rfl, fun p p0 p1 => absurd p1 (by omega)⟩
  | succ n ih =>
    rw [likP_s]
    by_cases c : wrS V T n m < (likP V T m n).2
    · rw [if_pos c]
      refine Or.inr ⟨⟨by show (0 : Int) ≤ n; omega, by show (n : Int) < ((n + 1 : Nat) : Int); omega⟩, rfl, ?_, fun p p0 p1 => ?_, fun p p0 p1 => ?_⟩
      · show wrS V T n m < 2
        have := likP_rng V T m n
        omega
      · show wrS V T n m < wrS V T p m
        have p1 : p < (n : Int) := p1
        rcases ih with ⟨e, a⟩ | ⟨_, _, a2, _, a4⟩
        · have := a p p0 p1
          rw [e] at c
          have c : wrS V T n m < 2 := c
          omega
        · have := a4 p p0 p1; omega
      · show wrS V T n m ≤ wrS V T p m
        by_cases e : p = n
        · rw [e]; exact Int.le_refl _
        · rcases ih with ⟨e, a⟩ | ⟨_, _, a2, _, a4⟩
          · have := a p p0 (by omega)
            rw [e] at c
            have c : wrS V T n m < 2 := c
            omega
          · have := a4 p p0 (by omega); omega
    · rw [if_neg c]
      rcases ih with ⟨e, a⟩ | ⟨a0, a1, a2, a3, a4⟩
      · refine Or.inl ⟨e, fun p p0 p1 => ?_⟩
        by_cases z : p = n
        · rw [e] at c
          have c : ¬ wrS V T n m < 2 := c
          rw [z]; omega
        · exact a p p0 (by omega)
      · refine Or.inr ⟨⟨a0.1, by omega⟩, a1, a2, a3, fun p p0 p1 => ?_⟩
        by_cases z : p = n
        · rw [z]; omega
        · exact a4 p p0 (by omega)
theorem lik_eq {V : VV} (hV : WF V) (T : Int → Int) (m : Nat) : (likP V T m (V 0).toNat).1 = if fitS V T m 0 = 0 then (if fitS V T m 1 = 0 then -1 else iNTZ (fitS V T m 1)) else iNTZ (fitS V T m 0) := by
  have h6 := hV.1.1
  have hi := likP_inv V T m (V 0).toNat
  rw [Int.toNat_of_nonneg h6.1] at hi
  have wr := fun p => wrS_rng V T p m
  by_cases c0 : fitS V T m 0 = 0
  · rw [if_pos c0]
    have f0 := (fit_0 hV T m 0).mp c0
    by_cases c1 : fitS V T m 1 = 0
    · rw [if_pos c1]
      have f1 := (fit_0 hV T m 1).mp c1
      rcases hi with ⟨e, _⟩ | ⟨a0, a1, a2, _, _⟩
      · rw [e]
      · have := f1 _ a0.1 a0.2; omega
    · rw [if_neg c1]
      have h := fit_bt hV T m 1
      have z := ntz_s (s := fitS V T m 1) (by have := h.1; omega) h.1.2
      have zz := (h.2 _ z.1.1 z.1.2).mp z.2.1
      rcases hi with ⟨e, a⟩ | ⟨a0, a1, a2, a3, a4⟩
      · have := a _ z.1.1 zz.1; omega
      · generalize iNTZ (fitS V T m 1) = r at z zz ⊢
        generalize likP V T m (V 0).toNat = s at a0 a1 a2 a3 a4 ⊢
        have b1 : bt (fitS V T m 1) s.1 := (h.2 _ a0.1 (by omega)).mpr ⟨a0.2, by omega⟩
        have b2 : ¬ s.1 < r := fun c => z.2.2 _ a0.1 c b1
        have b3 : ¬ r < s.1 := fun c => by
          have := a3 r z.1.1 c
          have q := f0 s.1 a0.1 a0.2
          have q2 := wr s.1
          omega
        omega
  · rw [if_neg c0]
    have h := fit_bt hV T m 0
    have z := ntz_s (s := fitS V T m 0) (by have := h.1; omega) h.1.2
    have zz := (h.2 _ z.1.1 z.1.2).mp z.2.1
    rcases hi with ⟨e, a⟩ | ⟨a0, a1, a2, a3, a4⟩
    · have := a _ z.1.1 zz.1; omega
    · generalize iNTZ (fitS V T m 0) = r at z zz ⊢
      generalize likP V T m (V 0).toNat = s at a0 a1 a2 a3 a4 ⊢
      have q0 := a4 r z.1.1 zz.1
      have b1 : bt (fitS V T m 0) s.1 := (h.2 _ a0.1 (by omega)).mpr ⟨a0.2, by omega⟩
      have b2 : ¬ s.1 < r := fun c => z.2.2 _ a0.1 c b1
      have b3 : ¬ r < s.1 := fun c => by
        have := a3 r z.1.1 c
        have q2 := wr s.1
        omega
      omega
section WM
variable {Γ : Cfg} {l : Launch} {d b : Nat} {g : GG} {K : Ou → HP → Prop} {V : VV} {T : Int → Int} {p n : Int}
theorem m_uses (hn : g 171 9 = n) (kk : ∀ g', kV g g' → g' 171 0 = 0 → g' 171 11 = n → (∀ a j, a ≠ 171 → g' a j = g a j) → (∀ j, j ≠ 0 → j ≠ 9 → j ≠ 10 → j ≠ 11 → g' 171 j = g 171 j) → g' 171 10 = 0 → K (.inl vU) (stt g')) : Ct Γ l d b yX12_uses mX12_uses [vR 171] (stt g) K := by
  apply wpX12_uses
  intro g1 e1
  rw [upd2_nj (by decide), hn] at e1
  have key : ∀ a j, ¬ (a = 171 ∧ (j = 0 ∨ j = 9 ∨ j = 10 ∨ j = 11)) → upd2 (upd2 g1 171 9 0) 171 10 0 a j = g a j := fun a j hh => by
    have c : ∀ k, (k = 0 ∨ k = 9 ∨ k = 10 ∨ k = 11) → ¬ (j = k ∧ a = 171) := fun k hk e => hh ⟨e.2, by omega⟩
    show (if j = 10 ∧ a = 171 then (0 : Int) else if j = 9 ∧ a = 171 then 0 else g1 a j) = g a j
    rw [if_neg (c 10 (by decide)), if_neg (c 9 (by decide)), e1]
    show (if j = 11 ∧ a = 171 then n else if j = 0 ∧ a = 171 then 0 else g a j) = g a j
    rw [if_neg (c 11 (by decide)), if_neg (c 0 (by decide))]
  refine kk _ ⟨fun a j hs => key a j (fun e => ?_), ?_⟩ ?_ ?_ (fun a j ha => key a j (fun e => ha e.1)) (fun j h0 h9 h10 h11 => key 171 j (fun e => by omega)) upd2_eq
  · unfold mU mS at hs; omega
  · rw [upd2_nj (by decide), upd2_eq]
  · rw [upd2_nj (by decide), upd2_nj (by decide), e1, upd2_nj (by decide), upd2_eq]
  · rw [upd2_nj (by decide), upd2_nj (by decide), e1, upd2_eq]
theorem sb_wr {x : Int} (h0 : 0 ≤ x) (h1 : x ≤ 255) : wr (sb x) = sb x := by
  unfold sb
  by_cases c : x < 128
  · rw [if_pos c]; exact wr_id (by omega) (by omega)
  · rw [if_neg c]; exact wr_id (by omega) (by omega)
theorem sb_in {x lo hi : Int} (h0 : 0 ≤ x) (h1 : x ≤ 255) (l0 : 0 ≤ lo) (h2 : hi < 128) : (lo ≤ sb x ∧ sb x ≤ hi) ↔ (lo ≤ x ∧ x ≤ hi) := by
  unfold sb
  by_cases c : x < 128
  · rw [if_pos c]
  · rw [if_neg c]; omega
theorem m_areTold (hT : MTp g T) (he : g 171 11 = n) (n0 : 0 ≤ n) (n1 : n ≤ 400) (k1 : tdR T n → K (.inl (vI 1)) (stt g)) (k2 : ¬ tdR T n → K (.inl (vI 0)) (stt g)) : Ct Γ l (d + 1) b yX12_areTold mX12_areTold [vR 171] (stt g) K := by
  have w1 : wr 1 = 1 := by decide +kernel
  have no : ∀ y : Int, ¬ tdR T n → AW Γ l mX12_areTold (d + 1) b 26 [vR 171, vI 0, vI y] [] (stt g) K := fun y hn => by
    apply wpX12_areTold_26
    rw [wr_0]
    exact ⟨fun _ => ⟨Or.inl rfl, k2 hn⟩, fun _ => ⟨fun _ => ⟨Or.inl rfl, k2 hn⟩, fun c => absurd rfl c⟩⟩
  apply wpX12_areTold
  rw [he, wr_id (x := n) (by omega) (by omega), iRem_nn n0 (by omega) (by decide) (by decide), wr_id (x := n % 2) (by omega) (by omega)]
  refine ⟨fun z => no 0 (fun t => by have := t.1; omega), fun z => ⟨fun z2 => no 0 (fun t => by have := t.1; omega), fun z2 => ?_⟩⟩
  refine up_loop (P := fun i => (∀ j : Nat, j < i → T (2 * j) < 12 ∧ T (2 * j + 1) ≤ 10) → AW Γ l mX12_areTold (d + 1) b 26 [vR 171, vI 1, vI (2 * (i : Int))] [] (stt g) K) (N := (n / 2).toNat) (fun f => ?_) (fun i hi9 hi f => ?_) 0 (Nat.zero_le _) (fun j hj => absurd hj (by omega))
  · apply wpX12_areTold_26
    rw [he, wr_id (x := n) (by omega) (by omega), wr_id (x := 2 * ((n / 2).toNat : Int)) (by omega) (by omega), w1]
    refine ⟨fun _ => ⟨Or.inr rfl, k1 ⟨⟨by omega, by omega⟩, fun j hj => f j (by omega)⟩⟩, fun c => absurd (show n ≤ 2 * ((n / 2).toNat : Int) by omega) c⟩
  · have hi2 : (∀ j : Nat, j < i + 1 → T (2 * j) < 12 ∧ T (2 * j + 1) ≤ 10) → AW Γ l mX12_areTold (d + 1) b 26 [vR 171, vI 1, vI (2 * (i : Int) + 2)] [] (stt g) K := by
      rw [show 2 * (i : Int) + 2 = 2 * ((i + 1 : Nat) : Int) by omega]
      exact hi
    have t0 := hT (2 * (i : Int)) (by omega) (by omega)
    have t1 := hT (2 * (i : Int) + 1) (by omega) (by omega)
    apply wpX12_areTold_26
    rw [he, wr_id (x := n) (by omega) (by omega), wr_id (x := 2 * (i : Int)) (by omega) (by omega), wr_id (x := 2 * (i : Int) + 1) (by omega) (by omega), w1, t0.2, t1.2, sb_wr t0.1.1 t0.1.2, sb_wr t1.1.1 t1.1.2, sb_in t0.1.1 t0.1.2 (by decide) (by decide), sb_in t1.1.1 t1.1.2 (by decide) (by decide)]
    refine ⟨fun c => absurd c (by omega), fun _ => ⟨fun c => absurd c (by decide), fun _ => ⟨by omega, fun y => ⟨by omega, fun y2 => hi2 (fun j hj => ?_), fun y2 => no _ (fun t => ?_)⟩, fun y => no _ (fun t => ?_)⟩⟩⟩
    · by_cases e : j = i
      · rw [e]; exact ⟨by omega, by omega⟩
      · exact f j (by omega)
    · have := t.2 i (by omega); omega
    · have := t.2 i (by omega); omega
theorem sb_lt {x : Int} (h : x < 128) : sb x = x := if_pos h
theorem m_wrongRows (hv : g 172 = V) (hV : WF V) (hT : MTp g T) (he : g 171 11 = n) (ht : tdR T n) (n0 : 0 ≤ n) (p0 : 0 ≤ p) (p1 : p < 6) (kk : K (.inl (vI (wrS V T p (n / 2).toNat))) (stt g)) : Ct Γ l (d + 4) b yX12_wrongRows mX12_wrongRows [vR 171, vI p] (stt g) K := by
  have h1 := ht.1
  apply wpX12_wrongRows
  refine up_loop (P := fun i => AW Γ l mX12_wrongRows (d + 4) b 4 [vR 171, vI p, vI (wrS V T p i), vI (2 * (i : Int))] [] (stt g) K) (N := (n / 2).toNat) ?_ (fun i hi9 hi => ?_) 0 (Nat.zero_le _)
  · apply wpX12_wrongRows_4
    rw [he, wr_id (x := n) (by omega) (by omega), wr_id (x := 2 * ((n / 2).toNat : Int)) (by omega) (by omega)]
    exact ⟨fun _ => kk, fun z => absurd (show n ≤ 2 * ((n / 2).toNat : Int) by omega) z⟩
  · have hr := ht.2 i (by omega)
    have t0 := hT (2 * (i : Int)) (by omega) (by omega)
    have t1 := hT (2 * (i : Int) + 1) (by omega) (by omega)
    have hk := kdAt_rng hV p0 p1 t0.1.1 hr.1
    have hi2 : AW Γ l mX12_wrongRows (d + 4) b 4 [vR 171, vI p, vI (if kdAt V p (T (2 * i)) = T (2 * i + 1) then wrS V T p i else wrS V T p i + 1), vI (2 * (i : Int) + 2)] [] (stt g) K := by
      rw [show 2 * (i : Int) + 2 = 2 * ((i + 1 : Nat) : Int) by omega]
      exact hi
    apply wpX12_wrongRows_4
    rw [he, wr_id (x := n) (by omega) (by omega), wr_id (x := 2 * (i : Int)) (by omega) (by omega), t0.2, sb_lt (by omega)]
    refine ⟨fun z => absurd z (by omega), fun _ => ⟨by omega, m_kindAt hv hV p0 p1 t0.1.1 hr.1 (bI_in ?_)⟩⟩
    rw [wr_id (x := 2 * (i : Int) + 1) (by omega) (by omega), t1.2, sb_lt (by omega), wr_id (x := T (2 * (i : Int) + 1)) (by omega) (by omega), wr_id (x := kdAt V p (T (2 * i))) (by omega) (by omega), Int.add_zero]
    refine ⟨by omega, fun z => ?_, fun z => ?_⟩
    · rw [if_neg z] at hi2; exact hi2
    · rw [if_pos (Decidable.not_not.mp z)] at hi2; exact hi2
theorem fit_wr (V : VV) (T : Int → Int) (m : Nat) (w : Int) (n : Nat) : wr (fd (fun b p => if wrS V T p m ≤ w then iOr b (iShl 1 p) else b) 0 n) = fd (fun b p => if wrS V T p m ≤ w then iOr b (iShl 1 p) else b) 0 n :=
  fd_ind (P := fun _ x => wr x = x) wr_0 (fun n x hx => by
    by_cases q : wrS V T n m ≤ w
    · simp only [if_pos q, wr_iOr]
    · simp only [if_neg q, hx]) n
theorem m_thatFit {w : Int} (hv : g 172 = V) (hV : WF V) (hT : MTp g T) (he : g 171 11 = n) (ht : tdR T n) (n0 : 0 ≤ n) (w0 : 0 ≤ w) (w1 : w ≤ 1) (kk : K (.inl (vI (fitS V T (n / 2).toNat w))) (stt g)) : Ct Γ l (d + 5) b yX12_thatFit mX12_thatFit [vR 171, vI w] (stt g) K := by
  have h6 := hV.1.1
  have h1 := ht.1
  apply wpX12_thatFit
  refine up_loop (P := fun i => AW Γ l mX12_thatFit (d + 5) b 4 [vR 171, vI w, vI (fd (fun b p => if wrS V T p (n / 2).toNat ≤ w then iOr b (iShl 1 p) else b) 0 i), vI i] [] (stt g) K) (N := (V 0).toNat) ?_ (fun i hi9 hi => ?_) 0 (Nat.zero_le _)
  · apply wpX12_thatFit_4
    rw [hv, wr_id (x := V 0) (by omega) (by omega), wr_id (x := ((V 0).toNat : Int)) (by omega) (by omega)]
    exact ⟨fun _ => kk, fun z => absurd (show V 0 ≤ ((V 0).toNat : Int) by omega) z⟩
  · have hr := wrS_rng V T i (n / 2).toNat
    have hi2 : AW Γ l mX12_thatFit (d + 5) b 4 [vR 171, vI w, vI (if wrS V T i (n / 2).toNat ≤ w then iOr (fd (fun b p => if wrS V T p (n / 2).toNat ≤ w then iOr b (iShl 1 p) else b) 0 i) (iShl 1 i) else fd (fun b p => if wrS V T p (n / 2).toNat ≤ w then iOr b (iShl 1 p) else b) 0 i), vI ((i : Int) + 1)] [] (stt g) K := hi
    apply wpX12_thatFit_4
    rw [hv, wr_id (x := V 0) (by omega) (by omega), wr_id (x := (i : Int)) (by omega) (by omega), iOr_0 (fit_wr _ _ _ _ _)]
    refine ⟨fun z => absurd z (by omega), fun _ => m_wrongRows hv hV hT he ht n0 (by omega) (by omega) (bI_in ?_)⟩
    rw [wr_id (x := wrS V T i (n / 2).toNat) (by omega) (by omega), wr_id (x := w) (by omega) (by omega)]
    refine ⟨fun z => ?_, fun z => ?_⟩
    · rw [if_neg (by omega)] at hi2; exact hi2
    · rw [if_pos (by omega)] at hi2; exact hi2
/-- the tape as the reference has it -/
def MB (g : GG) (T : Int → Int) (n : Int) : Prop := (g 171 9 = n ∧ 0 ≤ n ∧ n ≤ 400) ∧ MTp g T
theorem m_whose (hv : g 172 = V) (hV : WF V) (hT : MB g T n) (kk : mcU g (s_whose V T n) K) : Ct Γ l (d + 6) b yX12_whose mX12_whose [vR 171] (stt g) K := by
  have hn := hT.1
  apply wpX12_whose
  refine m_uses hn.1 fun g1 u1 z1 e1 r1 _ _ => bV_in ?_
  have v1 : g1 172 = V := by rw [← hv]; exact funext fun j => r1 _ _ (by decide)
  have t1 : MTp g1 T := fun i i0 i1 => by rw [r1 _ _ (by decide)]; exact hT.2 i i0 i1
  have w1 : wr 1 = 1 := by decide +kernel
  unfold s_whose at kk
  refine m_areTold t1 e1 hn.2.1 hn.2.2 (fun ht => bI_in ?_) (fun ht => bI_in ?_)
  · rw [if_pos ht] at kk
    rw [w1]
    exact ⟨fun _ => m_thatFit v1 hV t1 e1 ht hn.2.1 (by decide) (by decide) (bI_in (mcU_fin kk rfl u1 z1)), fun c => absurd (by decide) c⟩
  · rw [if_neg ht] at kk
    rw [wr_0]
    exact ⟨fun c => absurd rfl c, fun _ => mcU_fin kk rfl u1.th upd2_eq⟩
theorem m_likely (hv : g 172 = V) (hV : WF V) (hT : MB g T n) (kk : mcU g (s_likely V T n) K) : Ct Γ l (d + 6) b yX12_likely mX12_likely [vR 171] (stt g) K := by
  have hn := hT.1
  apply wpX12_likely
  refine m_uses hn.1 fun g1 u1 z1 e1 r1 _ _ => bV_in ?_
  have v1 : g1 172 = V := by rw [← hv]; exact funext fun j => r1 _ _ (by decide)
  have t1 : MTp g1 T := fun i i0 i1 => by rw [r1 _ _ (by decide)]; exact hT.2 i i0 i1
  have w1 : wr 1 = 1 := by decide +kernel
  unfold s_likely at kk
  refine m_areTold t1 e1 hn.2.1 hn.2.2 (fun ht => bI_in ?_) (fun ht => bI_in ?_)
  · rw [if_pos ht, lik_eq hV] at kk
    have f0 := fit_wr V T (n / 2).toNat 0 (V 0).toNat
    have f1 := fit_wr V T (n / 2).toNat 1 (V 0).toNat
    rw [w1]
    refine ⟨fun _ => m_thatFit v1 hV t1 e1 ht hn.2.1 (by decide) (by decide) (bI_in ⟨fun c => m_thatFit v1 hV t1 e1 ht hn.2.1 (by decide) (by decide) (bI_in ⟨fun c1 => wpX12_firstOf (bI_in ?_), fun c1 => ?_⟩), fun c => m_thatFit v1 hV t1 e1 ht hn.2.1 (by decide) (by decide) (bI_in ⟨fun _ => wpX12_firstOf (bI_in ?_), fun c1 => absurd c c1⟩)⟩), fun c => absurd (by decide) c⟩
    · rw [if_pos (show fitS V T (n / 2).toNat 0 = 0 from f0.symm.trans c), if_neg (fun e => c1 (by rw [e]; exact wr_0))] at kk
      exact mcU_fin kk rfl u1 z1
    · rw [if_pos (show fitS V T (n / 2).toNat 0 = 0 from f0.symm.trans c), if_pos (show fitS V T (n / 2).toNat 1 = 0 from f1.symm.trans (Decidable.not_not.mp c1))] at kk
      exact mcU_fin kk rfl u1 z1
    · rw [if_neg (show ¬ fitS V T (n / 2).toNat 0 = 0 from fun e => c (by rw [e]; exact wr_0))] at kk
      exact mcU_fin kk rfl u1 z1
  · rw [if_neg ht] at kk
    rw [wr_0]
    exact ⟨fun c => absurd rfl c, fun _ => mcU_fin kk rfl u1.th upd2_eq⟩
theorem m_partBy {F k : Int} (hv : g 172 = V) (hV : WF V) (F0 : 0 ≤ F) (F1 : F < 64) (k0 : 0 ≤ k) (k1 : k < 12) (kk : K (.inl (vI (gpS V F k 11))) (stt g)) : Ct Γ l (d + 4) b yX12_partBy mX12_partBy [vR 171, vI F, vI k] (stt g) K := by
  have h6 := hV.1.1
  apply wpX12_partBy
  refine up_loop (P := fun i => AW Γ l mX12_partBy (d + 4) b 5 [vR 171, vI F, vI k, vI (gpS V F k i), vI i, vU, vU] [] (stt g) K) (N := 11) ?_ (fun i hi9 hi => ?_) 0 (Nat.zero_le _)
  · apply wpX12_partBy_5
    exact ⟨fun _ => kk, fun z => absurd (show 10 < wr ((11 : Nat) : Int) by decide +kernel) z⟩
  · have hi2 : AW Γ l mX12_partBy (d + 4) b 5 [vR 171, vI F, vI k, vI (iMax (gpS V F k i) (pcS V F k i (V 0).toNat)), vI ((i : Int) + 1), vU, vU] [] (stt g) K := hi
    apply wpX12_partBy_5
    rw [wr_id (x := (i : Int)) (by omega) (by omega)]
    refine ⟨fun z => absurd z (by omega), fun _ => ?_⟩
    refine up_loop (P := fun q => AW Γ l mX12_partBy (d + 4) b 18 [vR 171, vI F, vI k, vI (gpS V F k i), vI i, vI (pcS V F k i q), vI q] [] (stt g) K) (N := (V 0).toNat) ?_ (fun q hq9 hq => ?_) 0 (Nat.zero_le _)
    · apply wpX12_partBy_18
      rw [hv, wr_id (x := V 0) (by omega) (by omega), wr_id (x := ((V 0).toNat : Int)) (by omega) (by omega)]
      exact ⟨fun _ => AW.weak hi2 (by simp [leP]), fun z => absurd (show V 0 ≤ ((V 0).toNat : Int) by omega) z⟩
    · have hq2 : AW Γ l mX12_partBy (d + 4) b 18 [vR 171, vI F, vI k, vI (gpS V F k i), vI i, vI (if (F.toNat.testBit ((q : Int)).toNat && decide (kdAt V q k = (i : Int))) = true then pcS V F k i q + 1 else pcS V F k i q), vI ((q : Int) + 1)] [] (stt g) K := hq
      have hb := bit_ask F0 F1 (p := q) (by omega) (by omega)
      have hk := kdAt_rng hV (p := q) (by omega) (by omega) k0 k1
      apply wpX12_partBy_18
      rw [hv, wr_id (x := V 0) (by omega) (by omega), wr_id (x := (q : Int)) (by omega) (by omega), wr_iAnd, hb.1, Int.add_zero]
      unfold bt
      refine ⟨fun z => absurd z (by omega), fun _ => ⟨fun z => m_kindAt hv hV (by omega) (by omega) k0 k1 (bI_in ?_), fun z => ?_⟩⟩
      · rw [wr_id (x := (i : Int)) (by omega) (by omega), wr_id (x := kdAt V q k) (by omega) (by omega)]
        refine ⟨fun y => ?_, fun y => ?_⟩
        · rw [if_neg (fun c => y (by rw [Bool.and_eq_true, decide_eq_true_iff] at c; exact c.2))] at hq2; exact hq2
        · rw [if_pos (by rw [Bool.and_eq_true, decide_eq_true_iff]; exact ⟨z, Decidable.not_not.mp y⟩)] at hq2; exact hq2
      · rw [if_neg (fun c => z (by rw [Bool.and_eq_true] at c; exact c.1))] at hq2; exact hq2
theorem askP_eq {V : VV} (hV : WF V) (F : Int) : ∀ n : Nat, askP V F (-1, 1000000) (n + 1) = askP V F (0, 7) (n + 1) := fun n => by
  induction n with
  | zero =>
    have hr := gpS_rng hV F ((0 : Nat) : Int) 11
    rw [askP_s, askP_s]
    rw [if_pos (show gpS V F ((0 : Nat) : Int) 11 < (askP V F (-1, 1000000) 0).2 from by show _ < (1000000 : Int); omega), if_pos (show gpS V F ((0 : Nat) : Int) 11 < (askP V F (0, 7) 0).2 from by show _ < (7 : Int); omega)]
  | succ n ih => rw [askP_s V F (-1, 1000000) (n + 1), ih, ← askP_s V F (0, 7) (n + 1)]
theorem m_ask (hv : g 172 = V) (hV : WF V) (hT : MB g T n) (kk : mcU g (s_ask V T n) K) : Ct Γ l (d + 6) b yX12_ask mX12_ask [vR 171] (stt g) K := by
  have hn := hT.1
  apply wpX12_ask
  refine m_uses hn.1 fun g1 u1 z1 e1 r1 _ _ => bV_in ?_
  have v1 : g1 172 = V := by rw [← hv]; exact funext fun j => r1 _ _ (by decide)
  have t1 : MTp g1 T := fun i i0 i1 => by rw [r1 _ _ (by decide)]; exact hT.2 i i0 i1
  have w1 : wr 1 = 1 := by decide +kernel
  unfold s_ask askS at kk
  refine m_areTold t1 e1 hn.2.1 hn.2.2 (fun ht => bI_in ?_) (fun ht => bI_in ?_)
  · rw [if_pos ht] at kk
    rw [w1]
    refine ⟨fun _ => m_thatFit v1 hV t1 e1 ht hn.2.1 (by decide) (by decide) (bI_in ?_), fun c => absurd (by decide) c⟩
    have hF := (fit_bt hV T (n / 2).toNat 1).1
    generalize fitS V T (n / 2).toNat 1 = F at hF kk ⊢
    have hbc := iBC_64 hF.1 hF.2
    by_cases z : 2 ≤ iBC F
    · rw [if_pos z, ← askP_eq hV F 11] at kk
      refine up_loop (P := fun i => AW Γ l mX12_ask (d + 6) b 40 [vR 171, vI F, vI (askP V F (-1, 1000000) i).1, vI (askP V F (-1, 1000000) i).2, vI i, vU] [] (stt g1) K) (N := 12) ?_ (fun i hi9 hi => ?_) 0 (Nat.zero_le _)
      · apply wpX12_ask_40
        exact ⟨fun _ => mcU_fin kk rfl u1 z1, fun c => absurd (show 12 ≤ wr ((12 : Nat) : Int) by decide +kernel) c⟩
      · have hr := gpS_rng hV F i 11
        have hl := askP_rng hV F (s := (-1, 1000000)) (by decide) (by decide) i
        rw [askP_s] at hi
        apply wpX12_ask_40
        rw [wr_id (x := (i : Int)) (by omega) (by omega), hbc.2]
        refine ⟨fun c => absurd c (by omega), fun _ => ⟨fun c => absurd c (by omega), fun _ => m_partBy v1 hV hF.1 hF.2 (by omega) (by omega) (bI_in ?_)⟩⟩
        rw [wr_id (x := gpS V F i 11) (by omega) (by omega), wr_id (x := (askP V F (-1, 1000000) i).2) (by omega) (by omega), iMin_id (by omega) (by omega) (by omega) (by omega)]
        refine ⟨fun z => ?_, fun z => ?_⟩
        · rw [if_neg (by omega)] at hi ⊢; exact AW.weak hi (by simp [leP])
        · rw [if_pos (by omega)] at hi ⊢; exact AW.weak hi (by simp [leP])
    · rw [if_neg z] at kk
      apply wpX12_ask_40
      rw [hbc.2]
      exact ⟨fun _ => mcU_fin kk rfl u1 z1, fun _ => ⟨fun _ => mcU_fin kk rfl u1 z1, fun c => absurd (show iBC F ≤ 1 by omega) c⟩⟩
  · rw [if_neg ht] at kk
    rw [wr_0]
    exact ⟨fun c => absurd rfl c, fun _ => mcU_fin kk rfl u1.th upd2_eq⟩
end WM
