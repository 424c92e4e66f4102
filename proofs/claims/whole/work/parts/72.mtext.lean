/-! THE TEXT: how the reference passes blanks, letters, numbers -/
set_option maxHeartbeats 1000000 in
theorem wpX12_blanks_0 {Γ : Cfg} {l : Launch} {d b : Nat} {g : GG} {K : Ou → HP → Prop} (hF : Ct Γ l d 0 yX12_isAt mX12_isAt [vR 171, vI 32, vI 32] (stt g) (bI (fun v1 g1 => (wr v1 = 0 → K (.inl vU) (stt (upd2 g1 171 12 (g1 171 10)))) ∧ (¬ (wr v1 = 0) → AW Γ l mX12_blanks (d + 1) b 0 [vR 171] [] (stt (upd2 g1 171 10 ((g1 171 10) + 1))) K)) K)) : AW Γ l mX12_blanks (d + 1) b 0 [vR 171] [] (stt g) K := by
  refine aw_aload_n (k' := 0) (by decide +kernel) rfl ?_
  refine aw_bipush (n := 32) (by decide +kernel) (by decide +kernel) ?_
  refine aw_bipush (n := 32) (by decide +kernel) (by decide +kernel) ?_
  refine aw_callV (y := yX12_isAt) (M2 := mX12_isAt) (as := [vI 32, vI 32]) (S := []) (t := 171) (d2 := d) (b2 := 0) (b3 := b) cwX12_isAt mlX12_105 imX12_isAt seX12_isAt (by decide +kernel) rfl (ci := 10) rfl (OB.at (ci := 10) (show shp 171 = (20, 0) by decide +kernel) (by decide)) (Nat.le_refl _) (Nat.le_of_eq (Nat.zero_add _)) rfl rfl (by simp [oneSlot]) (Nat.le_of_ble_eq_true rfl) (Ct.mono hF ?_)
  rintro o h' (⟨v1, g1, rfl, rfl, hG⟩ | ⟨E, g, rfl, rfl, hG⟩)
  · show AW Γ l mX12_blanks (d + 1) b 8 [vR 171] [vI v1] (stt g1) K
    refine ax_if_eq (off := 16) (tgt := 24) (x' := wr v1) (by decide +kernel) (by decide) rfl (fun hc => ?_) (fun hc => ?_)
    · have hG := hG.1 hc
      refine aw_aload_n (k' := 0) (by decide +kernel) rfl ?_
      refine aw_aload_n (k' := 0) (by decide +kernel) rfl ?_
      refine gfX12_99 rfl (by decide +kernel) (OB.at (ci := 10) (show shp 171 = (20, 0) by decide +kernel) (by decide)) ?_
      refine pfX12_109 rfl (by decide +kernel) (OB.at (ci := 10) (show shp 171 = (20, 0) by decide +kernel) (by decide)) ?_
      exact aw_vret (by decide +kernel) rfl hG
    · have hG := hG.2 hc
      refine aw_aload_n (k' := 0) (by decide +kernel) rfl ?_
      refine aw_dup (by decide +kernel) trivial ?_
      refine gfX12_99 rfl (by decide +kernel) (OB.at (ci := 10) (show shp 171 = (20, 0) by decide +kernel) (by decide)) ?_
      refine aw_iconst (n := 1) (by decide +kernel) ?_
      refine aw_iadd (by decide +kernel) ?_
      refine pfX12_99 rfl (by decide +kernel) (OB.at (ci := 10) (show shp 171 = (20, 0) by decide +kernel) (by decide)) ?_
      show AW Γ l mX12_blanks (d + 1) b 21 [vR 171] [] (stt (upd2 g1 171 10 ((g1 171 10) + 1))) K
      refine aw_goto (off := -21) (tgt := 0) (by decide +kernel) (by decide) ?_
      exact hG
  · exact hG
/-- what the reference reads -/
def RD (g : GG) (T : Int → Int) (L : Int) : Prop := MTp g T ∧ g 171 11 = L ∧ L ≤ 400
/-- only where it stands changes -/
def oRd (g g' : GG) : Prop := ∀ a j, ¬ (a = 171 ∧ (j = 10 ∨ j = 12)) → g' a j = g a j
theorem oRd.refl {g : GG} : oRd g g := fun _ _ _ => rfl
theorem oRd.trans {g1 g2 g3 : GG} (h : oRd g1 g2) (h' : oRd g2 g3) : oRd g1 g3 := fun a j hn => by rw [h' a j hn, h a j hn]
theorem RD.op {g g' : GG} {T : Int → Int} {L : Int} (h : RD g T L) (o : oRd g g') : RD g' T L := ⟨fun i i0 i1 => by rw [o _ _ (by omega)]; exact h.1 i i0 i1, by rw [o _ _ (by omega)]; exact h.2.1, h.2.2⟩
theorem oRd.at (g : GG) {j x : Int} (hj : j = 10 ∨ j = 12) : oRd g (upd2 g 171 j x) := fun a i hn => if_neg (fun z => hn ⟨z.2, by omega⟩)
section MT
variable {Γ : Cfg} {l : Launch} {d b : Nat} {g : GG} {K : Ou → HP → Prop} {T S P N : Int → Int} {L n p e q x y a lo hi : Int}
theorem m_isAt (h : RD g T L) (hq : g 171 10 = q) (q0 : 0 ≤ q) (q1 : q ≤ L) (l0 : 0 ≤ lo) (h1 : hi < 128) (lh : lo ≤ hi) (k1 : q < L → lo ≤ T q → T q ≤ hi → K (.inl (vI 1)) (stt g)) (k0 : ¬ (q < L ∧ lo ≤ T q ∧ T q ≤ hi) → K (.inl (vI 0)) (stt g)) : Ct Γ l d b yX12_isAt mX12_isAt [vR 171, vI lo, vI hi] (stt g) K := by
  obtain ⟨hT, he, hL⟩ := h
  apply wpX12_isAt
  rw [he, hq, wr_id (x := L) (by omega) (by omega), wr_id (x := q) (by omega) (by omega)]
  refine ⟨fun c => k0 (by omega), fun c => ⟨⟨q0, by omega⟩, ?_⟩⟩
  have t := hT q q0 (by omega)
  have sw := sb_in (x := T q) (lo := lo) (hi := hi) t.1.1 t.1.2 l0 h1
  have sr : -128 ≤ sb (T q) ∧ sb (T q) ≤ 127 := by unfold sb; omega
  rw [t.2, sb_wr t.1.1 t.1.2]
  rw [wr_id (x := lo) (by omega) (by omega), wr_id (x := hi) (by omega) (by omega)]
  by_cases z : lo ≤ T q ∧ T q ≤ hi
  · have z2 := sw.mpr z
    exact ⟨fun w => absurd w (by omega), fun _ => ⟨⟨q0, by omega⟩, fun w => absurd w (by omega), fun _ => k1 (by omega) z.1 z.2⟩⟩
  · have hk := k0 (fun w => z w.2)
    exact ⟨fun _ => hk, fun c1 => ⟨⟨q0, by omega⟩, fun _ => hk, fun c2 => absurd (sw.mp ⟨by omega, by omega⟩) z⟩⟩
theorem m_blanks (h : RD g T L) (q0 : 0 ≤ g 171 10) (hn : NX T L (g 171 10) p) (kk : ∀ g', oRd g g' → g' 171 10 = p → g' 171 12 = p → K (.inl vU) (stt g')) : Ct Γ l (d + 1) b yX12_blanks mX12_blanks [vR 171] (stt g) K := by
  have w0 : wr 0 = 0 := by decide +kernel
  have w1 : wr 1 = 1 := by decide +kernel
  apply wpX12_blanks
  generalize hq : g 171 10 = q at *
  refine up_loop (P := fun i => ∀ g', oRd g g' → g' 171 10 = q + i → AW Γ l mX12_blanks (d + 1) b 0 [vR 171] [] (stt g') K) (N := (p - q).toNat) (fun g' o f => ?_) (fun i hi9 hi g' o f => ?_) 0 (Nat.zero_le _) g oRd.refl (by rw [hq]; omega)
  · have hd := h.op o
    rw [show q + ((p - q).toNat : Int) = p by have := hn.1; omega] at f
    apply wpX12_blanks_0
    refine m_isAt hd f (by have := hn.1; omega) hn.1.2 (by decide) (by decide) (by decide) (fun c1 c2 c3 => ?_) (fun _ => bI_in ?_)
    · rcases hn.2.2 with z | z
      · omega
      · omega
    · rw [w0, f]
      refine ⟨fun _ => kk _ (o.trans (oRd.at g' (Or.inr rfl))) (by rw [upd2_nj (by decide), f]) upd2_eq, fun c => absurd rfl c⟩
  · have hd := h.op o
    have hb := hn.2.1 (q + i) (by omega) (by omega)
    apply wpX12_blanks_0
    refine m_isAt hd f (by omega) (by have := hn.1; omega) (by decide) (by decide) (by decide) (fun c1 c2 c3 => bI_in ?_) (fun c => absurd c (by have := hn.1; omega))
    rw [w1, f]
    refine ⟨fun c => absurd c (by decide), fun _ => hi _ (o.trans (oRd.at g' (Or.inl rfl))) ?_⟩
    rw [upd2_eq]
    omega
/-- where the letters end that begin at p -/
def LE (T : Int → Int) (L p r : Int) : Prop := (p < L ∧ 97 ≤ T p ∧ T p ≤ 122 → EN T L p r) ∧ (¬ (p < L ∧ 97 ≤ T p ∧ T p ≤ 122) → r = p)
theorem EN.let {T : Int → Int} {L p e : Int} (h : EN T L p e) (hp : 97 ≤ T p ∧ T p ≤ 122) : (∀ j, p ≤ j → j < e → 97 ≤ T j ∧ T j ≤ 122) ∧ (e = L ∨ ¬ (97 ≤ T e ∧ T e ≤ 122)) := by
  have key : ∀ k : Nat, p + k < e → 97 ≤ T (p + k) ∧ T (p + k) ≤ 122 := by
    intro k
    induction k with
    | zero => intro _; rw [show p + ((0 : Nat) : Int) = p by omega]; exact hp
    | succ k ih =>
      intro hk
      have i := ih (by omega)
      have w := h.2.1 (p + ((k + 1 : Nat) : Int)) (by omega) hk
      unfold gO gop at w
      rw [show p + ((k + 1 : Nat) : Int) - 1 = p + k by omega] at w
      omega
  have key2 : ∀ j, p ≤ j → j < e → 97 ≤ T j ∧ T j ≤ 122 := fun j j0 j1 => by
    have := key (j - p).toNat (by omega)
    rw [show p + ((j - p).toNat : Int) = j by omega] at this
    exact this
  refine ⟨key2, h.2.2.elim Or.inl fun z => Or.inr fun w => z ?_⟩
  have l := key2 (e - 1) (by have := h.1; omega) (by omega)
  exact Or.inl ⟨l.1, l.2, w.1, w.2⟩
theorem EN.dig {T : Int → Int} {L p e : Int} (h : EN T L p e) (hp : dgt T p) : (∀ j, p ≤ j → j < e → dgt T j) ∧ (e = L ∨ ¬ dgt T e) := by
  unfold dgt at hp ⊢
  have key : ∀ k : Nat, p + k < e → 48 ≤ T (p + k) ∧ T (p + k) ≤ 57 := by
    intro k
    induction k with
    | zero => intro _; rw [show p + ((0 : Nat) : Int) = p by omega]; exact hp
    | succ k ih =>
      intro hk
      have i := ih (by omega)
      have w := h.2.1 (p + ((k + 1 : Nat) : Int)) (by omega) hk
      unfold gO gop at w
      rw [show p + ((k + 1 : Nat) : Int) - 1 = p + k by omega] at w
      omega
  have key2 : ∀ j, p ≤ j → j < e → 48 ≤ T j ∧ T j ≤ 57 := fun j j0 j1 => by
    have := key (j - p).toNat (by omega)
    rw [show p + ((j - p).toNat : Int) = j by omega] at this
    exact this
  refine ⟨key2, h.2.2.elim Or.inl fun z => Or.inr fun w => z ?_⟩
  have l := key2 (e - 1) (by have := h.1; omega) (by omega)
  exact Or.inr ⟨l.1, l.2, w.1, w.2⟩
theorem m_letters {r : Int} (h : RD g T L) (q0 : 0 ≤ g 171 10) (hn : NX T L (g 171 10) p) (hr : LE T L p r) (kk : ∀ g', oRd g g' → g' 171 10 = r → g' 171 12 = p → K (.inl vU) (stt g')) : Ct Γ l (d + 2) b yX12_letters mX12_letters [vR 171] (stt g) K := by
  have w0 : wr 0 = 0 := by decide +kernel
  have w1 : wr 1 = 1 := by decide +kernel
  have p0 : 0 ≤ p := by have := hn.1; omega
  apply wpX12_letters
  refine m_blanks h q0 hn fun g1 o1 f1 f2 => bV_in ?_
  have key : p ≤ r ∧ r ≤ L ∧ (∀ j, p ≤ j → j < r → 97 ≤ T j ∧ T j ≤ 122) ∧ (r = L ∨ ¬ (97 ≤ T r ∧ T r ≤ 122)) := by
    by_cases c : p < L ∧ 97 ≤ T p ∧ T p ≤ 122
    · have he := hr.1 c
      have hl := he.let c.2
      exact ⟨by have := he.1; omega, he.1.2, hl.1, hl.2⟩
    · have z := hr.2 c
      have := hn.1
      subst z
      refine ⟨Int.le_refl _, this.2, fun j j0 j1 => by omega, ?_⟩
      by_cases e : r = L
      · exact Or.inl e
      · exact Or.inr (fun w => c ⟨by omega, w⟩)
  obtain ⟨a1, a2, a3, a4⟩ := key
  refine up_loop (P := fun i => ∀ g', oRd g g' → g' 171 12 = p → g' 171 10 = p + i → AW Γ l mX12_letters (d + 2) b 4 [vR 171] [] (stt g') K) (N := (r - p).toNat) (fun g' o f2 f => ?_) (fun i hi9 hi g' o f2 f => ?_) 0 (Nat.zero_le _) g1 o1 f2 (by rw [f1]; omega)
  · rw [show p + ((r - p).toNat : Int) = r by omega] at f
    apply wpX12_letters_4
    refine m_isAt (h.op o) f (by omega) a2 (by decide) (by decide) (by decide) (fun c1 c2 c3 => ?_) (fun _ => bI_in ?_)
    · rcases a4 with z | z
      · omega
      · exact absurd ⟨c2, c3⟩ z
    · rw [w0]
      exact ⟨fun _ => kk g' o f f2, fun c => absurd rfl c⟩
  · have hb := a3 (p + i) (by omega) (by omega)
    apply wpX12_letters_4
    refine m_isAt (h.op o) f (by omega) (by omega) (by decide) (by decide) (by decide) (fun c1 c2 c3 => bI_in ?_) (fun c => absurd c (by omega))
    rw [w1, f]
    refine ⟨fun c => absurd c (by decide), fun _ => hi _ (o.trans (oRd.at g' (Or.inl rfl))) (by rw [upd2_nj (by decide), f2]) ?_⟩
    rw [upd2_eq]
    omega
/-- whether what was passed spells so -/
theorem m_isWord {t r : Int} (ht : SS t) (h : RD g T L) (hr : g 171 10 = r) (hp : g 171 12 = p) (p0 : 0 ≤ p) (p1 : p ≤ r) (r1 : r ≤ L) (k1 : ssB t = sbt T p r → K (.inl (vI 1)) (stt g)) (k0 : ssB t ≠ sbt T p r → K (.inl (vI 0)) (stt g)) : Ct Γ l (d + 4) b yX12_isWord mX12_isWord [vR 171, vR t] (stt g) K := by
  obtain ⟨hT, he, hL⟩ := h
  have w0 : wr 0 = 0 := by decide +kernel
  have w1 : wr 1 = 1 := by decide +kernel
  have hs := (ssB_ok ht).1
  have hl : ssL t = ((ssB t).length : Int) := rfl
  have hif := sbt_iff (T := T) (p := p) (e := r) (q := ssB t) p1
  have no : ∀ y3 : Int, ssB t ≠ sbt T p r → AW Γ l mX12_isWord (d + 4) b 24 [vR 171, vR t, vI 0, vI y3] [] (stt g) K := fun y3 hn => by
    apply wpX12_isWord_24 ht
    rw [w0]
    exact ⟨fun _ => ⟨Or.inl rfl, k0 hn⟩, fun c => absurd rfl c⟩
  apply wpX12_isWord ht
  rw [hr, hp, wr_id (x := ssL t) (by omega) (by omega), wr_id (x := r - p) (by omega) (by omega)]
  refine ⟨fun c => no 0 (fun z => c (by have := (hif.mp z).1; omega)), fun c => ?_⟩
  have c9 : r - p = ssL t := by omega
  refine up_loop (P := fun i => (∀ k : Nat, k < i → (ssB t).getD k 0 = T (p + k)) → AW Γ l mX12_isWord (d + 4) b 24 [vR 171, vR t, vI 1, vI (i : Int)] [] (stt g) K) (N := (ssB t).length) (fun f => ?_) (fun i hi9 hi f => ?_) 0 (Nat.zero_le _) (fun k hk => absurd hk (by omega))
  · apply wpX12_isWord_24 ht
    rw [wr_id (x := ssL t) (by omega) (by omega), wr_id (x := ((ssB t).length : Int)) (by omega) (by omega), w1]
    exact ⟨fun c => absurd c (by decide), fun _ => ⟨fun _ => ⟨Or.inr rfl, k1 (hif.mpr ⟨by omega, f⟩)⟩, fun c => absurd (Int.le_of_eq hl) c⟩⟩
  · have t0 := hT (p + i) (by omega) (by omega)
    have ha := ssB_at ht i
    apply wpX12_isWord_24 ht
    rw [wr_id (x := ssL t) (by omega) (by omega), wr_id (x := (i : Int)) (by omega) (by omega), w1, hp, wr_id (x := p + (i : Int)) (by omega) (by omega), t0.2, sb_wr t0.1.1 t0.1.2, Int.toNat_natCast, wr_id (x := (ssB t).getD i 0) (by omega) (by omega)]
    have eq : sb (T (p + i)) = (ssB t).getD i 0 ↔ (ssB t).getD i 0 = T (p + i) := by
      unfold sb
      omega
    refine ⟨fun c => absurd c (by decide), fun _ => ⟨fun c => absurd c (by omega), fun _ => ⟨⟨by omega, by omega⟩, ⟨by omega, by omega⟩, fun c => no _ (fun z => c (eq.mpr ((hif.mp z).2 i hi9))), fun c => hi (fun k hk => ?_)⟩⟩⟩
    by_cases x : k = i
    · rw [x]; exact eq.mp (Decidable.not_not.mp c)
    · exact f k (by omega)
end MT
