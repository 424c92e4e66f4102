/-! COUGHS put to hours of two rivals: the reference's side -/
theorem wL_get {N : Int → Bool} : ∀ {n i : Nat}, (wL N n)[i]? = some false ↔ i < n ∧ tkN N (n - 1 - i) = -1
  | 0, i => ⟨fun h => absurd (show (none : Option Bool) = some false from h) (by decide), fun h => absurd h.1 (by omega)⟩
  | n + 1, 0 => by
    show (some (decide (tkN N n ≠ -1)) : Option Bool) = some false ↔ _
    rw [show n + 1 - 1 - 0 = n by omega, Option.some.injEq, decide_eq_false_iff_not]
    exact ⟨fun h => ⟨by omega, Decidable.not_not.mp h⟩, fun h => fun c => c h.2⟩
  | n + 1, i + 1 => by
    show (wL N n)[i]? = some false ↔ _
    rw [wL_get (n := n) (i := i), show n + 1 - 1 - (i + 1) = n - 1 - i by omega]
    exact ⟨fun h => ⟨by omega, h.2⟩, fun h => ⟨by omega, h.2⟩⟩
/-- a number by which one wins -/
def hitB (N : Int → Bool) (n m : Nat) : Prop := N m = true ∧ 1 ≤ m ∧ m ≤ n ∧ tkN N (n - m) = -1
theorem hit_iff {N : Int → Bool} {n m : Nat} : (N m && (decide (0 < (m : Int)) && decide ((wL N n)[((m : Int)).toNat - 1]? = some false))) = true ↔ hitB N n m := by
  rw [Bool.and_eq_true, Bool.and_eq_true, decide_eq_true_iff, decide_eq_true_iff, Int.toNat_natCast, wL_get]
  unfold hitB
  refine ⟨fun ⟨h1, h2, h3, h4⟩ => ⟨h1, by omega, by omega, ?_⟩, fun ⟨h1, h2, h3, h4⟩ => ⟨h1, by omega, by omega, ?_⟩⟩
  · rw [show n - 1 - (m - 1) = n - m by omega] at h4; exact h4
  · rw [show n - 1 - (m - 1) = n - m by omega]; exact h4
theorem tkN_use {N : Int → Bool} {n : Nat} : (List.range 10).any (fun m => N m && decide (m ≤ (wL N n).length)) = true ↔ ∃ m : Nat, m < 10 ∧ N m = true ∧ m ≤ n := by
  rw [List.any_eq_true, wL_len]
  refine ⟨fun ⟨m, h1, h2⟩ => ?_, fun ⟨m, h1, h2, h3⟩ => ⟨m, List.mem_range.mpr h1, ?_⟩⟩
  · rw [Bool.and_eq_true, decide_eq_true_iff] at h2
    exact ⟨m, List.mem_range.mp h1, h2.1, h2.2⟩
  · rw [Bool.and_eq_true, decide_eq_true_iff]
    exact ⟨h2, h3⟩
/-- none wins: some can be coughed, but no one wins by it -/
theorem tkN_no {N : Int → Bool} {n : Nat} : tkN N n = -1 ↔ (∃ m : Nat, m < 10 ∧ N m = true ∧ m ≤ n) ∧ ∀ m : Nat, m < 10 → ¬ hitB N n m := by
  unfold tkN tkL
  rw [← tkN_use]
  by_cases c : (List.range 10).any (fun m => N m && decide (m ≤ (wL N n).length)) = true
  · rw [if_pos c, lsr_no]
    refine ⟨fun h => ⟨c, fun m hm hh => ?_⟩, fun h j _ hj => Bool.eq_false_iff.mpr (fun e => h.2 j (by omega) (hit_iff.mp e))⟩
    have := h m (by omega) (by omega)
    rw [hit_iff.mpr hh] at this
    cases this
  · rw [if_neg c]
    exact ⟨fun h => absurd h (by decide), fun h => absurd h.1 c⟩
theorem lsr_is {P : Int → Bool} {m : Nat} : ∀ {n i : Nat}, i ≤ m → m < i + n → P m = true → (∀ j : Nat, i ≤ j → j < m → P j = false) → lsr P i n = m
  | 0, i, h0, h1, _, _ => absurd h1 (by omega)
  | n + 1, i, h0, h1, hp, hf => by
    show (if P i = true then (i : Int) else lsr P (i + 1) n) = m
    by_cases c : i = m
    · rw [c, if_pos hp]
    · rw [if_neg (by rw [hf i (Nat.le_refl _) (by omega)]; decide)]
      exact lsr_is (by omega) (by omega) hp (fun j h0 h1 => hf j (by omega) h1)
/-- the least number by which one wins -/
theorem tkN_is {N : Int → Bool} {n m : Nat} (hm : m < 10) (h : hitB N n m) (hl : ∀ j : Nat, j < m → ¬ hitB N n j) : tkN N n = m := by
  unfold tkN tkL
  rw [if_pos (tkN_use.mpr ⟨m, hm, h.1, h.2.2.1⟩)]
  exact lsr_is (Nat.zero_le _) (by omega) (hit_iff.mpr h) (fun j _ hj => Bool.eq_false_iff.mpr (fun e => hl j hj (hit_iff.mp e)))
theorem tkN_le {N : Int → Bool} {n : Nat} (h : ∀ m : Nat, m < 10 → ¬ hitB N n m) : tkN N n ≤ 0 := by
  by_cases c : tkN N n = -1
  · omega
  · have : ¬ ∃ m : Nat, m < 10 ∧ N m = true ∧ m ≤ n := fun e => c (tkN_no.mpr ⟨e, h⟩)
    unfold tkN tkL
    rw [if_neg (fun e => this (tkN_use.mp e))]
    exact Int.le_refl _
def cnP (T : Int → Int) (i : Int) (k : Nat) : Prop := ∃ t : Nat, t < k ∧ T t ≤ i
def isQ (T : Int → Int) (N : Int → Bool) (i : Int) (k : Nat) : Prop := ∃ t : Nat, t < k ∧ T t ≤ i ∧ tkN N (i - T t).toNat = -1
theorem cn_mk {T : Int → Int} {i : Int} {k : Nat} (t : Nat) (h1 : t < k) (h2 : T t ≤ i) : cnP T i k := ⟨t, h1, h2⟩
theorem is_mk {T : Int → Int} {N : Int → Bool} {i : Int} {k : Nat} (h : ∃ t : Nat, t < k ∧ T t ≤ i ∧ tkN N (i - T t).toNat = -1) : isQ T N i k := h
theorem cn_0 {T : Int → Int} {i : Int} : ¬ cnP T i 0 := fun ⟨_, h, _⟩ => absurd h (by omega)
theorem is_0 {T : Int → Int} {N : Int → Bool} {i : Int} : ¬ isQ T N i 0 := fun ⟨_, h, _⟩ => absurd h (by omega)
section CM
variable {Γ : Cfg} {l : Launch} {d b : Nat} {g : GG} {K : Ou → HP → Prop} {T : Int → Int} {n x : Int}
theorem m_areCoughs (hT : MTp g T) (he : g 171 11 = n) (n0 : 0 ≤ n) (n1 : n ≤ 400) (hx : wr x = x) (k1 : cgR T n x → K (.inl (vI 1)) (stt g)) (k2 : ¬ cgR T n x → K (.inl (vI 0)) (stt g)) : Ct Γ l (d + 1) b yX12_areCoughs mX12_areCoughs [vR 171, vI x] (stt g) K := by
  have w1 : wr 1 = 1 := by decide +kernel
  have no : ∀ y : Int, ¬ cgR T n x → AW Γ l mX12_areCoughs (d + 1) b 27 [vR 171, vI x, vI 0, vI y] [] (stt g) K := fun y hn => by
    apply wpX12_areCoughs_27
    rw [wr_0]
    exact ⟨fun _ => ⟨Or.inl rfl, k2 hn⟩, fun _ => ⟨fun _ => ⟨Or.inl rfl, k2 hn⟩, fun c => absurd rfl c⟩⟩
  apply wpX12_areCoughs
  rw [he, wr_id (x := n) (by omega) (by omega), hx]
  refine ⟨fun z => no 0 (fun t => by have := t.1; omega), fun z => ⟨fun z2 => ?_, fun z2 => no 0 (fun t => by have := t.1; omega)⟩⟩
  refine up_loop (P := fun i => (∀ j : Nat, j < i → 1 ≤ T j ∧ T j ≤ 9) → AW Γ l mX12_areCoughs (d + 1) b 27 [vR 171, vI x, vI 1, vI i] [] (stt g) K) (N := n.toNat) (fun f => ?_) (fun i hi9 hi f => ?_) 0 (Nat.zero_le _) (fun j hj => absurd hj (by omega))
  · apply wpX12_areCoughs_27
    rw [he, wr_id (x := n) (by omega) (by omega), wr_id (x := (n.toNat : Int)) (by omega) (by omega), w1]
    exact ⟨fun _ => ⟨Or.inr rfl, k1 ⟨⟨by omega, by omega, by omega⟩, fun j hj => f j (by omega)⟩⟩, fun c => absurd (show n ≤ (n.toNat : Int) by omega) c⟩
  · have t0 := hT (i : Int) (by omega) (by omega)
    apply wpX12_areCoughs_27
    rw [he, wr_id (x := n) (by omega) (by omega), wr_id (x := (i : Int)) (by omega) (by omega), w1, t0.2, sb_wr t0.1.1 t0.1.2, sb_in t0.1.1 t0.1.2 (by decide) (by decide)]
    refine ⟨fun c => absurd c (by omega), fun _ => ⟨fun c => absurd c (by decide), fun _ => ⟨by omega, fun y => hi (fun j hj => ?_), fun y => no _ (fun t => y (t.2 i (by omega)))⟩⟩⟩
    by_cases e : j = i
    · rw [e]; exact y
    · exact f j (by omega)
/-- who wins lies in the row -/
def WN (g : GG) (N : Int → Bool) (n : Nat) : Prop := ∀ j : Nat, j < n → g 188 j = if tkN N j = -1 then 0 else 1
theorem m_laysWins {N : Int → Bool} (hT : MTp g T) (he : g 171 11 = n) (n0 : 0 ≤ n) (n1 : n ≤ 6) (hc : ∀ i : Nat, (i : Int) < n → 1 ≤ T i ∧ T i ≤ 9) (hN : N = nmB T n.toNat) (kk : ∀ g', (∀ a j, a ≠ 188 → g' a j = g a j) → WN g' N 100 → K (.inl vU) (stt g')) : Ct Γ l d b yX12_laysWins mX12_laysWins [vR 171] (stt g) K := by
  have w1 : wr 1 = 1 := by decide +kernel
  have hNm : ∀ m : Nat, N m = true ↔ ∃ i : Nat, i < n.toNat ∧ T i = m := fun m => by rw [hN]; exact nmB_iff
  apply wpX12_laysWins
  refine up_loop (P := fun i => ∀ g1, (∀ a j, a ≠ 188 → g1 a j = g a j) → WN g1 N i → AW Γ l mX12_laysWins d b 2 [vR 171, vI i, vU, vU, vU] [] (stt g1) K) (N := 100) (fun g1 o1 f1 => ?_) (fun i hi9 hi g1 o1 f1 => ?_) 0 (Nat.zero_le _) g (fun _ _ _ => rfl) (fun j hj => absurd hj (by omega))
  · apply wpX12_laysWins_2
    exact ⟨fun _ => kk g1 o1 f1, fun z => absurd (show 100 ≤ wr ((100 : Nat) : Int) by decide +kernel) z⟩
  · apply wpX12_laysWins_2
    rw [wr_id (x := (i : Int)) (by omega) (by omega)]
    refine ⟨fun z => absurd z (by omega), fun _ => ?_⟩
    have hT1 : MTp g1 T := fun j j0 j1 => by rw [o1 _ _ (by decide)]; exact hT j j0 j1
    have he1 : g1 171 11 = n := by rw [o1 _ _ (by decide)]; exact he
    -- the entry of i
    have put : ∀ v : Int, v = (if tkN N i = -1 then 0 else 1) → ∀ a c e : AV, AW Γ l mX12_laysWins d b 2 [vR 171, vI ((i : Int) + 1), a, c, e] [] (stt (upd2 g1 188 (i : Int) v)) K := fun v hv a c e => by
      refine AW.weak (hi _ (fun a j ha => by rw [upd2_ne ha, o1 a j ha]) (fun j hj => ?_)) (by simp [leP])
      by_cases e : j = i
      · rw [e, upd2_eq, hv]
      · rw [upd2_nj (by omega), f1 j (by omega)]
    refine up_loop (P := fun k => ∀ y2 y3 : Int, (y2 = 0 ∨ y2 = 1) → (y3 = 0 ∨ y3 = 1) → (y2 = 1 ↔ cnP T i k) → (y3 = 1 ↔ isQ T N i k) → AW Γ l mX12_laysWins d b 15 [vR 171, vI i, vI y2, vI y3, vI k] [] (stt g1) K) (N := n.toNat) (fun y2 y3 a2 a3 b2 b3 => ?_) (fun k hk9 hk y2 y3 a2 a3 b2 b3 => ?_) 0 (Nat.zero_le _) 0 0 (Or.inl rfl) (Or.inl rfl) ⟨fun c => absurd c (by decide), fun h => absurd h cn_0⟩ ⟨fun c => absurd c (by decide), fun h => absurd h is_0⟩
    · -- whether none wins
      have nw : tkN N i = -1 ↔ y2 = 1 ∧ ¬ y3 = 1 := by
        rw [tkN_no, b2, b3]
        refine ⟨fun ⟨⟨m, m1, m2, m3⟩, h⟩ => ?_, fun ⟨⟨t, t1, t2⟩, h⟩ => ?_⟩
        · obtain ⟨t, t1, t2⟩ := (hNm m).mp m2
          refine ⟨cn_mk t t1 (by omega), fun ⟨t, t1, t2, t3⟩ => ?_⟩
          have hct := hc t (by omega)
          refine h (T t).toNat (by omega) ⟨(hNm _).mpr ⟨t, t1, by omega⟩, by omega, by omega, ?_⟩
          rw [show ((i : Int) - T t).toNat = i - (T t).toNat by omega] at t3
          exact t3
        · have hct := hc t (by omega)
          refine ⟨⟨(T t).toNat, by omega, (hNm _).mpr ⟨t, t1, by omega⟩, by omega⟩, fun m hm hh => h (is_mk ?_)⟩
          obtain ⟨c1, c2, c3, c4⟩ := hh
          obtain ⟨t, t1, t2⟩ := (hNm m).mp c1
          refine ⟨t, t1, by omega, ?_⟩
          rw [show ((i : Int) - T t).toNat = i - m by omega]
          exact c4
      apply wpX12_laysWins_15
      rw [he1, wr_id (x := n) (by omega) (by omega), wr_id (x := (n.toNat : Int)) (by omega) (by omega), wr_id (x := (i : Int)) (by omega) (by omega), wr_id (x := y2) (by omega) (by omega), wr_id (x := y3) (by omega) (by omega)]
      refine ⟨fun _ => ⟨fun z => ⟨by omega, put 1 ?_ _ _ _⟩, fun z => ⟨fun z2 => ⟨by omega, put 0 ?_ _ _ _⟩, fun z2 => ⟨by omega, put 1 ?_ _ _ _⟩⟩⟩, fun z => absurd (show n ≤ (n.toNat : Int) by omega) z⟩
      · rw [if_neg (fun c => by have := nw.mp c; omega)]
      · rw [if_pos (nw.mpr ⟨by omega, by omega⟩)]
      · rw [if_neg (fun c => by have := nw.mp c; omega)]
    · have hck := hc k (by omega)
      have t0 := hT1 (k : Int) (by omega) (by omega)
      -- what is next
      have nx : ∀ c e : Int, (c = 0 ∨ c = 1) → (e = 0 ∨ e = 1) → (c = 1 ↔ y2 = 1 ∨ T k ≤ (i : Int)) → (e = 1 ↔ y3 = 1 ∨ (T k ≤ (i : Int) ∧ tkN N ((i : Int) - T k).toNat = -1)) → AW Γ l mX12_laysWins d b 15 [vR 171, vI i, vI c, vI e, vI ((k : Int) + 1)] [] (stt g1) K := fun c e c01 e01 hc he => hk c e c01 e01 (hc.trans (by
          rw [b2]
          refine ⟨fun h => ?_, fun ⟨t, t1, t2⟩ => ?_⟩
          · rcases h with ⟨t, t1, t2⟩ | h
            · exact cn_mk t (by omega) t2
            · exact cn_mk k (by omega) h
          · by_cases q : t = k
            · rw [q] at t2; exact Or.inr t2
            · exact Or.inl (cn_mk t (by omega) t2))) (he.trans (by
          rw [b3]
          refine ⟨fun h => ?_, fun ⟨t, t1, t2⟩ => ?_⟩
          · rcases h with ⟨t, t1, t2⟩ | h
            · exact is_mk ⟨t, by omega, t2⟩
            · exact is_mk ⟨k, by omega, h⟩
          · by_cases q : t = k
            · rw [q] at t2; exact Or.inr t2
            · exact Or.inl (is_mk ⟨t, by omega, t2⟩)))
      have i400 : 0 ≤ (k : Int) ∧ (k : Int) < 400 := by omega
      -- whether the other one loses then
      have ls : T k ≤ (i : Int) → (0 ≤ wr ((i : Int) - T k) ∧ wr ((i : Int) - T k) < 100) ∧ (wr (g1 188 (wr ((i : Int) - T k))) = 0 ↔ tkN N ((i : Int) - T k).toNat = -1) := fun h => by
        rw [wr_id (x := (i : Int) - T k) (by omega) (by omega)]
        refine ⟨by omega, ?_⟩
        have := f1 ((i : Int) - T k).toNat (by omega)
        rw [Int.toNat_of_nonneg (by omega)] at this
        rw [this]
        by_cases c : tkN N ((i : Int) - T k).toNat = -1
        · rw [if_pos c, wr_0]; exact ⟨fun _ => c, fun _ => rfl⟩
        · rw [if_neg c, w1]; exact ⟨fun e => absurd e (by decide), fun e => absurd e c⟩
      generalize tkN N ((i : Int) - T k).toNat = w at nx ls
      apply wpX12_laysWins_15
      rw [he1, wr_id (x := n) (by omega) (by omega), wr_id (x := (k : Int)) (by omega) (by omega), wr_id (x := (i : Int)) (by omega) (by omega), t0.2, sb_lt (by omega), wr_id (x := T k) (by omega) (by omega), wr_id (x := y2) (by omega) (by omega), wr_id (x := y3) (by omega) (by omega)]
      have one : (1 : Int) = 0 ∨ (1 : Int) = 1 := Or.inr rfl
      have zer : (0 : Int) = 0 ∨ (0 : Int) = 1 := Or.inl rfl
      refine ⟨fun z => absurd z (by omega), fun _ => ⟨fun z2 => ⟨fun z3 => nx 1 1 one one (by omega) (by omega), fun z3 => ⟨i400, fun z4 => nx 1 0 one zer (by omega) (by omega), fun z4 => ?_⟩⟩, fun z2 => ⟨i400, fun z4 => ⟨fun z3 => nx 0 1 zer one (by omega) (by omega), fun z3 => ⟨i400, fun z5 => nx 0 0 zer zer (by omega) (by omega), fun z5 => absurd z4 z5⟩⟩, fun z4 => ⟨fun z3 => nx 1 1 one one (by omega) (by omega), fun z3 => ⟨i400, fun z5 => absurd z5 z4, fun z5 => ?_⟩⟩⟩⟩⟩
      · have q := ls (by omega)
        exact ⟨i400, q.1, fun y => nx 1 0 one zer (by omega) (by omega), fun y => nx 1 1 one one (by omega) (by omega)⟩
      · have q := ls (by omega)
        exact ⟨i400, q.1, fun y => nx 1 0 one zer (by omega) (by omega), fun y => nx 1 1 one one (by omega) (by omega)⟩
theorem kV.w {g1 : GG} (h : kV g g1) {g2 : GG} (o : ∀ a j, a ≠ 188 → g2 a j = g1 a j) : kV g g2 := ⟨fun a j hs => by rw [o _ _ (by unfold mU mS at hs; omega)]; exact h.1 a j hs, by rw [o _ _ (by decide)]; exact h.2⟩
theorem m_coughs (hT : MB g T n) (hx : wr x = x) (kk : mcU g (s_coughs T n x) K) : Ct Γ l (d + 2) b yX12_coughs mX12_coughs [vR 171, vI x] (stt g) K := by
  have hn := hT.1
  apply wpX12_coughs
  refine m_uses hn.1 fun g1 u1 z1 e1 r1 _ _ => bV_in ?_
  have t1 : MTp g1 T := fun i i0 i1 => by rw [r1 _ _ (by decide)]; exact hT.2 i i0 i1
  have w1 : wr 1 = 1 := by decide +kernel
  unfold s_coughs at kk
  refine m_areCoughs t1 e1 hn.2.1 hn.2.2 hx (fun ht => bI_in ?_) (fun ht => bI_in ?_)
  · rw [if_pos ht] at kk
    rw [w1, hx]
    refine ⟨fun _ => m_laysWins t1 e1 hn.2.1 ht.1.1 ht.2 rfl fun g2 o2 f2 => bV_in ⟨by have := ht.1; omega, ?_⟩, fun c => absurd (by decide) c⟩
    have := f2 x.toNat (by have := ht.1; omega)
    rw [Int.toNat_of_nonneg ht.1.2.1] at this
    rw [this]
    refine ⟨?_, mcU_fin kk rfl (u1.w o2) (by rw [o2 _ _ (by decide)]; exact z1)⟩
    by_cases c : tkN (nmB T n.toNat) x.toNat = -1
    · rw [if_pos c]; exact Or.inl wr_0
    · rw [if_neg c]; exact Or.inr w1
  · rw [if_neg ht] at kk
    rw [wr_0]
    exact ⟨fun c => absurd rfl c, fun _ => mcU_fin kk rfl u1.th upd2_eq⟩
theorem m_first (hT : MB g T n) (hx : wr x = x) (kk : mcU g (s_first T n x) K) : Ct Γ l (d + 2) b yX12_first mX12_first [vR 171, vI x] (stt g) K := by
  have hn := hT.1
  apply wpX12_first
  refine m_uses hn.1 fun g1 u1 z1 e1 r1 _ _ => bV_in ?_
  have t1 : MTp g1 T := fun i i0 i1 => by rw [r1 _ _ (by decide)]; exact hT.2 i i0 i1
  have w1 : wr 1 = 1 := by decide +kernel
  unfold s_first at kk
  refine m_areCoughs t1 e1 hn.2.1 hn.2.2 hx (fun ht => bI_in ?_) (fun ht => bI_in ?_)
  · rw [if_pos ht] at kk
    rw [w1]
    refine ⟨fun _ => m_laysWins t1 e1 hn.2.1 ht.1.1 ht.2 rfl fun g2 o2 f2 => bV_in ?_, fun c => absurd (by decide) c⟩
    have u2 := u1.w o2
    have z2 : g2 171 0 = 0 := by rw [o2 _ _ (by decide)]; exact z1
    have e2 : g2 171 11 = n := by rw [o2 _ _ (by decide)]; exact e1
    have t2 : MTp g2 T := fun i i0 i1 => by rw [o2 _ _ (by decide)]; exact t1 i i0 i1
    have hNm : ∀ m : Nat, nmB T n.toNat m = true ↔ ∃ i : Nat, i < n.toNat ∧ T i = m := fun m => nmB_iff
    have hx9 := ht.1
    -- the least so far: far off, or a hit, and no hit is less
    refine up_loop (P := fun k => ∀ y : Int, (y = 1000000 ∨ ((1 ≤ y ∧ y ≤ 9) ∧ hitB (nmB T n.toNat) x.toNat y.toNat)) → (∀ t : Nat, t < k → hitB (nmB T n.toNat) x.toNat (T t).toNat → y ≤ T t) → AW Γ l mX12_first (d + 2) b 36 [vR 171, vI x, vI y, vI k] [] (stt g2) K) (N := n.toNat) (fun y a1 a2 => ?_) (fun k hk9 hk y a1 a2 => ?_) 0 (Nat.zero_le _) 1000000 (Or.inl rfl) (fun t h => absurd h (by omega))
    · apply wpX12_first_36
      rw [e2, wr_id (x := n) (by omega) (by omega), wr_id (x := (n.toNat : Int)) (by omega) (by omega), wr_id (x := y) (by omega) (by omega)]
      refine ⟨fun _ => ⟨fun z => ?_, fun z => ?_⟩, fun c => absurd (show n ≤ (n.toNat : Int) by omega) c⟩
      · rcases a1 with e | ⟨a1, a3⟩
        · exact absurd e z
        · have : tkN (nmB T n.toNat) x.toNat = y.toNat := tkN_is (by omega) a3 (fun j hj hh => by
            obtain ⟨t, t1, t2⟩ := (hNm j).mp hh.1
            have := a2 t t1 (by rw [t2, Int.toNat_natCast]; exact hh)
            omega)
          rw [this, if_pos (by omega), Int.toNat_of_nonneg (by omega)] at kk
          exact mcU_fin kk rfl u2 z2
      · have : tkN (nmB T n.toNat) x.toNat ≤ 0 := tkN_le (fun m hm hh => by
            obtain ⟨t, t1, t2⟩ := (hNm m).mp hh.1
            have := a2 t t1 (by rw [t2, Int.toNat_natCast]; exact hh)
            omega)
        rw [if_neg (by omega)] at kk
        exact mcU_fin kk rfl u2 z2
    · have hck := ht.2 k (by omega)
      have t0 := t2 (k : Int) (by omega) (by omega)
      have i400 : 0 ≤ (k : Int) ∧ (k : Int) < 400 := by omega
      have nxt : ∀ y' : Int, (y' = 1000000 ∨ ((1 ≤ y' ∧ y' ≤ 9) ∧ hitB (nmB T n.toNat) x.toNat y'.toNat)) → y' ≤ y → (hitB (nmB T n.toNat) x.toNat (T k).toNat → y' ≤ T k) → AW Γ l mX12_first (d + 2) b 36 [vR 171, vI x, vI y', vI ((k : Int) + 1)] [] (stt g2) K := fun y' b1 b2 b3 => hk y' b1 (fun t h1 h2 => by
        by_cases q : t = k
        · rw [q] at h2 ⊢; exact b3 h2
        · have := a2 t (by omega) h2; omega)
      apply wpX12_first_36
      rw [e2, wr_id (x := n) (by omega) (by omega), wr_id (x := (k : Int)) (by omega) (by omega), t0.2, sb_lt (by omega), wr_id (x := T k) (by omega) (by omega), hx]
      refine ⟨fun z => absurd z (by omega), fun _ => ⟨i400, fun z => nxt y a1 (Int.le_refl _) (fun h => by have := h.2.2.1; omega), fun z => ⟨i400, ?_⟩⟩⟩
      rw [wr_id (x := x - T k) (by omega) (by omega)]
      have f := f2 (x - T k).toNat (by omega)
      rw [Int.toNat_of_nonneg (by omega)] at f
      rw [f]
      refine ⟨by omega, fun c => nxt y a1 (Int.le_refl _) (fun h => ?_), fun c => ⟨i400, ?_⟩⟩
      · have h4 := h.2.2.2
        rw [show x.toNat - (T k).toNat = (x - T k).toNat by omega] at h4
        rw [if_pos h4] at c
        exact absurd wr_0 c
      · have h4 : tkN (nmB T n.toNat) (x - T k).toNat = -1 := by
          by_cases q : tkN (nmB T n.toNat) (x - T k).toNat = -1
          · exact q
          · rw [if_neg q, w1] at c; exact absurd (by decide) c
        have hh : hitB (nmB T n.toNat) x.toNat (T k).toNat := ⟨(hNm _).mpr ⟨k, by omega, by omega⟩, by omega, by omega, by rw [show x.toNat - (T k).toNat = (x - T k).toNat by omega]; exact h4⟩
        rw [iMin_id (by omega) (by omega) (by omega) (by omega)]
        by_cases q : T k < y
        · rw [if_pos q]; exact nxt (T k) (Or.inr ⟨hck, hh⟩) (by omega) (fun _ => Int.le_refl _)
        · rw [if_neg q]; exact nxt y a1 (Int.le_refl _) (fun _ => by omega)
  · rw [if_neg ht] at kk
    rw [wr_0]
    exact ⟨fun c => absurd rfl c, fun _ => mcU_fin kk rfl u1.th upd2_eq⟩
end CM
