/-! A TEXT OF THE LAW: the reference reads comparisons -/
def MQ9 (g : GG) (C : Int) (q : QQ) : Prop := (g 171 17 = C + q.1 ∧ 0 ≤ C ∧ 0 ≤ q.1) ∧ ∀ i, 0 ≤ i → i < q.1 → g 172 (1384 + 2 * (C + i)) = q.2.1 i ∧ g 172 (1384 + 2 * (C + i) + 1) = q.2.2 i
def oM (C : Int) (g g' : GG) : Prop := ∀ x j, ¬ (x = 171 ∧ (j = 10 ∨ j = 12 ∨ j = 13 ∨ j = 17)) → ¬ (x = 172 ∧ 1384 + 2 * C ≤ j) → g' x j = g x j
def oN (C : Int) (g g' : GG) : Prop := ∀ x j, ¬ (x = 171 ∧ j = 17) → ¬ (x = 172 ∧ 1384 + 2 * C ≤ j) → g' x j = g x j
theorem oM.trans {C : Int} {g1 g2 g3 : GG} (h : oM C g1 g2) (h' : oM C g2 g3) : oM C g1 g3 := fun x j a b => by rw [h' x j a b, h x j a b]
theorem oM.refl {C : Int} {g : GG} : oM C g g := fun _ _ _ _ => rfl
theorem oN.m {C : Int} {g g' : GG} (h : oN C g g') : oM C g g' := fun x j a b => h x j (by omega) b
theorem oRd.m {C : Int} {g g' : GG} (h : oRd g g') : oM C g g' := fun x j a b => h x j (by omega)
theorem RD.om {C : Int} {g g' : GG} {T : Int → Int} {L : Int} (h : RD g T L) (o : oM C g g') : RD g' T L := ⟨fun i i0 i1 => by rw [o _ _ (by omega) (by omega)]; exact h.1 i i0 i1, by rw [o _ _ (by omega) (by omega)]; exact h.2.1, h.2.2⟩
theorem MQ9.rd {C : Int} {g g' : GG} {q : QQ} (h : MQ9 g C q) (o : oRd g g') : MQ9 g' C q := ⟨⟨by rw [o _ _ (by omega)]; exact h.1.1, h.1.2⟩, fun i i0 i1 => by rw [o _ _ (by omega), o _ _ (by omega)]; exact h.2 i i0 i1⟩
theorem sgF_word {s : Int} (h : SG s) (hf : 0 ≤ sgF s) : ∃ i : Nat, i < 30 ∧ s = 1000 + i := by
  obtain ⟨i, hi, rfl⟩ := h.eq
  have k := of_decide_eq_true (List.all_eq_true.mp (show (List.range 39).all (fun i => decide (0 ≤ sgFact i → i < 30)) = true by decide +kernel) i (List.mem_range.mpr hi))
  unfold sgF at hf
  rw [show (1000 + (i : Int) - 1000).toNat = i by omega] at hf
  exact ⟨i, k hf, rfl⟩
section MC9
variable {Γ : Cfg} {l : Launch} {d b : Nat} {g : GG} {K : Ou → HP → Prop} {T S P N : Int → Int} {L n p e x y a C : Int} {q : QQ}
theorem AT.on {g g' : GG} (h : AT g T L n P a) (o : oN C g g') : AT g' T L n P a := h.v (o _ _ (by omega) (by omega))
theorem m_em {c x : Int} (hq : MQ9 g C q) (hb : C + q.1 ≤ 399) (kk : ∀ g', MQ9 g' C (adQ q c x) → oN C g g' → K (.inl vU) (stt g')) : Ct Γ l d b yX12_emits mX12_emits [vR 171, vI c, vI x] (stt g) K := by
  obtain ⟨⟨h1, h2, h3⟩, h4⟩ := hq
  apply wpX12_emits
  rw [h1, wr_id (x := 1384 + 2 * (C + q.1)) (by omega) (by omega)]
  refine ⟨by omega, fun g1 e1 => ?_⟩
  have e17 : g1 171 17 = C + q.1 := by rw [e1, upd2_ne (by decide), h1]
  rw [e17, wr_id (x := 1384 + 2 * (C + q.1) + 1) (by omega) (by omega)]
  refine ⟨by omega, fun g2 e2 => ?_⟩
  have f17 : g2 171 17 = C + q.1 := by rw [e2, upd2_ne (by decide), e17]
  rw [f17]
  refine kk _ ⟨⟨by rw [upd2_eq]; show C + q.1 + 1 = C + (q.1 + 1); omega, h2, by show 0 ≤ q.1 + 1; omega⟩, fun i i0 i1 => ?_⟩ (fun y j a1 a2 => ?_)
  · have i1 : i < q.1 + 1 := i1
    rw [upd2_ne (by decide), upd2_ne (by decide), e2, e1]
    show upd2 (upd2 g 172 (1384 + 2 * (C + q.1)) c) 172 (1384 + 2 * (C + q.1) + 1) x 172 (1384 + 2 * (C + i)) = upV q.2.1 q.1 c i ∧ upd2 (upd2 g 172 (1384 + 2 * (C + q.1)) c) 172 (1384 + 2 * (C + q.1) + 1) x 172 (1384 + 2 * (C + i) + 1) = upV q.2.2 q.1 x i
    by_cases z : i = q.1
    · rw [z, upV_eq, upV_eq, upd2_eq, upd2_nj (by omega), upd2_eq]; exact ⟨rfl, rfl⟩
    · rw [upV_ne z, upV_ne z, upd2_nj (by omega), upd2_nj (by omega), upd2_nj (by omega), upd2_nj (by omega)]
      exact h4 i i0 (by omega)
  · rw [show upd2 g2 171 17 (C + q.1 + 1) y j = g2 y j from if_neg (fun z => a1 ⟨z.2, z.1⟩), e2]
    rw [show upd2 g1 172 (1384 + 2 * (C + q.1) + 1) x y j = g1 y j from if_neg (fun z => a2 ⟨z.2, by omega⟩), e1]
    exact if_neg (fun z => a2 ⟨z.2, by omega⟩)
theorem m_wop (hS : TS T L n S P N) (hR : RD g T L) (a0 : 0 ≤ a) (a1 : a ≤ n) (hL : LT g T L P a) (k1 : (0 ≤ sgF (S a) ∧ sgF (S a) ≤ 6) → AT g T L n P (a + 1) → K (.inl (vI (sgF (S a)))) (stt g)) (k0 : ¬ (0 ≤ sgF (S a) ∧ sgF (S a) ≤ 6) → K (.inl (vI (-1))) (stt g)) : Ct Γ l (d + 5) b yX12_wordOfPart mX12_wordOfPart [vR 171] (stt g) K := by
  have w0 : wr 0 = 0 := by decide +kernel
  have w1 : wr 1 = 1 := by decide +kernel
  have yes : ∀ s i : Int, S a = s → sgF s = i → 0 ≤ i → i ≤ 6 → AT g T L n P (a + 1) → K (.inl (vI i)) (stt g) := fun s i z q i0 i1 at1 => by
    have k := k1 (by rw [z, q]; exact ⟨i0, i1⟩) at1
    rw [z, q] at k
    exact k
  have go : ∀ {A B : Prop}, A → (wr 1 = 0 → B) ∧ (¬ wr 1 = 0 → A) := fun h => ⟨fun c => absurd c (by rw [w1]; decide), fun _ => h⟩
  have no : ∀ {A B : Prop}, B → (wr 0 = 0 → B) ∧ (¬ wr 0 = 0 → A) := fun h => ⟨fun _ => h, fun c => absurd w0 c⟩
  apply wpX12_wordOfPart
  refine m_wd 2039 25 ⟨by decide, by decide⟩ (by decide +kernel) (by decide) hS hR a0 a1 hL (fun z q => bI_in (go (yes _ 0 z (by decide +kernel) (by decide) (by decide) q))) (fun z0 => bI_in (no ?_))
  refine m_wd 2040 26 ⟨by decide, by decide⟩ (by decide +kernel) (by decide) hS hR a0 a1 hL (fun z q => bI_in (go (yes _ 1 z (by decide +kernel) (by decide) (by decide) q))) (fun z1 => bI_in (no ?_))
  refine m_wd 2020 3 ⟨by decide, by decide⟩ (by decide +kernel) (by decide) hS hR a0 a1 hL (fun z q => bI_in (go (yes _ 2 z (by decide +kernel) (by decide) (by decide) q))) (fun z2 => bI_in (no ?_))
  refine m_wd 2041 27 ⟨by decide, by decide⟩ (by decide +kernel) (by decide) hS hR a0 a1 hL (fun z q => bI_in (go (yes _ 3 z (by decide +kernel) (by decide) (by decide) q))) (fun z3 => bI_in (no ?_))
  refine m_wd 2023 6 ⟨by decide, by decide⟩ (by decide +kernel) (by decide) hS hR a0 a1 hL (fun z q => bI_in (go (yes _ 4 z (by decide +kernel) (by decide) (by decide) q))) (fun z4 => bI_in (no ?_))
  refine m_wd 2042 28 ⟨by decide, by decide⟩ (by decide +kernel) (by decide) hS hR a0 a1 hL (fun z q => bI_in (go (yes _ 5 z (by decide +kernel) (by decide) (by decide) q))) (fun z5 => bI_in (no ?_))
  refine m_wd 2043 29 ⟨by decide, by decide⟩ (by decide +kernel) (by decide) hS hR a0 a1 hL (fun z q => bI_in (go (yes _ 6 z (by decide +kernel) (by decide) (by decide) q))) (fun z6 => bI_in (no ?_))
  refine k0 fun q => ?_
  obtain ⟨i, hi, e⟩ := (hS.sg a0 a1).eq
  have k := of_decide_eq_true (List.all_eq_true.mp (show (List.range 39).all (fun i => decide (0 ≤ sgFact i ∧ sgFact i ≤ 6 → i = 25 ∨ i = 26 ∨ i = 3 ∨ i = 27 ∨ i = 6 ∨ i = 28 ∨ i = 29)) = true by decide +kernel) i (List.mem_range.mpr hi))
  rw [e] at q
  unfold sgF at q
  rw [show (1000 + (i : Int) - 1000).toNat = i by omega] at q
  have := k q
  omega
theorem m_part (hS : TS T L n S P N) (hR : RD g T L) (hA : AT g T L n P a) (hq : MQ9 g C q) (hb : C + q.1 + 1 ≤ a) (k1 : isPt S a → ∀ g', oM C g g' → AT g' T L n P (a + 1) → MQ9 g' C (ptQ S N a q) → g' 171 13 = g 171 13 → K (.inl (vI 1)) (stt g')) (k0 : ¬ isPt S a → ∀ g', oM C g g' → g' 171 12 = P a → K (.inl (vI 0)) (stt g')) : Ct Γ l (d + 6) b yX12_readPart mX12_readPart [vR 171] (stt g) K := by
  have hn := hS.1.1
  have an := hA.a1
  have a0 := hA.a0
  have hp := hS.p a0 an
  have sg := hS.sg a0 an
  apply wpX12_readPart
  refine m_let hS hR hA fun g1 o1 l1 => bV_in ?_
  have hR1 := hR.op o1
  have q1 := hq.rd o1
  have hL := hR.2.2
  rw [l1.1, wr_id (x := g1 171 10) (by have := l1.2.2; omega) (by have := l1.2.2; omega), wr_id (x := P a) (by omega) (by omega)]
  refine ⟨fun c => ?_, fun c => ?_⟩
  · have nn : S a ≠ 1036 := fun z => by
      obtain ⟨al, e, he, hd, _⟩ := hS.num a0 an z
      unfold dgt at hd
      have := l1.2.1.2 (by omega)
      omega
    refine m_wop hS hR1 a0 an l1 (fun z at1 => bI_in ?_) (fun z => bI_in ?_)
    · refine m_em (c := sgF (S a)) (x := 0) q1 (by omega) fun g2 h2 o2 => bV_in ?_
      rw [wr_id (x := sgF (S a)) (by omega) (by omega)]
      refine ⟨fun w => absurd w (by omega), fun _ => k1 (Or.inr z) g2 (o1.m.trans o2.m) (at1.on o2) ?_ (by rw [o2 _ _ (by omega) (by omega), o1 _ _ (by omega)])⟩
      unfold ptQ
      rw [if_neg nn]
      exact h2
    · refine m_em (c := -1) (x := 0) q1 (by omega) fun g2 h2 o2 => bV_in ?_
      rw [show wr (-1) = -1 by decide +kernel]
      refine ⟨fun _ => k0 (fun w => w.elim nn z) g2 (o1.m.trans o2.m) (by rw [o2 _ _ (by omega) (by omega)]; exact l1.1), fun w => absurd (by decide) w⟩
  · have c : g1 171 10 = P a := Decidable.not_not.mp c
    have at1 : AT g1 T L n P a := AT.self hS a0 an c
    refine m_number hS hR1 at1 (by decide) (by decide) (by decide) (fun z1 z2 z3 g2 o2 at2 f2 => bI_in ?_) (fun z g2 o2 f2 => bI_in ?_)
    · refine m_em (c := 10) (x := N a) (q1.rd o2) (by omega) fun g3 h3 o3 => bV_in ?_
      rw [wr_id (x := N a) (by omega) (by omega)]
      refine ⟨fun w => absurd w (by omega), fun _ => k1 (Or.inl z1) g3 (o1.m.trans (o2.m.trans o3.m)) (at2.on o3) ?_ (by rw [o3 _ _ (by omega) (by omega), o2 _ _ (by omega), o1 _ _ (by omega)])⟩
      unfold ptQ
      rw [if_pos z1]
      exact h3
    · refine m_em (c := 10) (x := -1) (q1.rd o2) (by omega) fun g3 h3 o3 => bV_in ?_
      rw [show wr (-1) = -1 by decide +kernel]
      refine ⟨fun _ => k0 (fun w => ?_) g3 (o1.m.trans (o2.m.trans o3.m)) (by rw [o3 _ _ (by omega) (by omega)]; exact f2), fun w => absurd (by decide) w⟩
      rcases w with w | w
      · exact z ⟨w, hS.n9 a0 an w⟩
      · obtain ⟨i, hi, e⟩ := sgF_word sg w.1
        have := (word_nx hS a0 an l1.2.1 hi e).2.1
        omega
/-- where a reading of conditions ends in the reference -/
def ML (g : GG) (T : Int → Int) (L n : Int) (P : Int → Int) (C : Int) (r : RQ) (K : Ou → HP → Prop) : Prop := ∀ g', oM C g g' → (r.1 = true → AT g' T L n P r.2.1 ∧ MQ9 g' C r.2.2 ∧ g' 171 13 = g 171 13) → (¬ r.1 = true → g' 171 12 = P r.2.1) → K (.inl (vI (if r.1 = true then 1 else 0))) (stt g')
theorem ML.no {g g' : GG} {m : Int} {w : QQ} (h : ML g T L n P C (false, m, w) K) (o : oM C g g') (hp : g' 171 12 = P m) : K (.inl (vI 0)) (stt g') := h g' o (fun z => absurd z Bool.false_ne_true) (fun _ => hp)
theorem ML.yes {g g' : GG} {m : Int} {w : QQ} (h : ML g T L n P C (true, m, w) K) (o : oM C g g') (hp : AT g' T L n P m) (hq : MQ9 g' C w) (h13 : g' 171 13 = g 171 13) : K (.inl (vI 1)) (stt g') := h g' o (fun _ => ⟨hp, hq, h13⟩) (fun z => absurd rfl z)
theorem ML.fl {g g' : GG} {r : RQ} (h : ML g T L n P C r K) (hr : ¬ r.1 = true) (o : oM C g g') (hp : g' 171 12 = P r.2.1) : K (.inl (vI 0)) (stt g') := by
  have := h g' o (fun z => absurd z hr) (fun _ => hp)
  rw [if_neg hr] at this
  exact this
theorem ML.up {g g' : GG} {r : RQ} (h : ML g T L n P C r K) (o : oM C g g') (h13 : g' 171 13 = g 171 13) : ML g' T L n P C r K := fun g2 o2 y1 => h g2 (o.trans o2) (fun z => ⟨(y1 z).1, (y1 z).2.1, by rw [(y1 z).2.2, h13]⟩)
theorem m_sumL (hS : TS T L n S P N) : ∀ (f : Nat) (a : Int) (g : GG) (q : QQ), n - a < f → RD g T L → AT g T L n P a → MQ9 g C q → C + q.1 + 3 ≤ a → ML g T L n P C (smL S N f a q) K → AW Γ l mX12_readSum (d + 7) b 9 [vR 171] [] (stt g) K := by
  have w0 : wr 0 = 0 := by decide +kernel
  have w1 : wr 1 = 1 := by decide +kernel
  have hn := hS.1.1
  intro f
  induction f with
  | zero => intro a g q hf _ hA; have := hA.a1; omega
  | succ f ih =>
    intro a g q hf hR hA hq hb kk
    unfold smL at kk
    apply wpX12_readSum_9
    refine m_sign 43 35 (by decide) (by decide +kernel) (by decide) (by decide) (by decide) hS hR hA (fun z g1 o1 at1 f1 => bI_in ?_) (fun z g1 o1 at1 f1 => bI_in ?_)
    · rw [if_pos (show S a = 1035 from z)] at kk
      rw [w1]
      refine ⟨fun c => absurd c (by decide), fun _ => ?_⟩
      have kk := kk.up o1.m (o1 _ _ (by omega))
      refine m_part hS (hR.op o1) at1 (hq.rd o1) (by omega) (fun y g2 o2 at2 q2 h2 => bI_in ?_) (fun y g2 o2 f2 => bI_in ?_)
      · rw [if_pos y] at kk
        rw [w1]
        refine ⟨fun _ => ?_, fun c => absurd (show (1 : Int) ≠ 0 by decide) c⟩
        have e1 : (ptQ S N (a + 1) q).1 = q.1 + 1 := by
          unfold ptQ
          by_cases w : S (a + 1) = 1036
          · rw [if_pos w]; rfl
          · rw [if_neg w]; rfl
        have an1 := at2.a1
        refine m_em (c := 11) (x := 0) q2 (by omega) fun g3 q3 o3 => bV_in ?_
        rw [show a + 1 + 1 = a + 2 by omega] at at2
        have kk := kk.up (o2.trans o3.m) (by rw [o3 _ _ (by omega) (by omega)]; exact h2)
        exact ih (a + 2) g3 _ (by omega) (((hR.op o1).om o2).om o3.m) (at2.on o3) q3 (by show C + ((ptQ S N (a + 1) q).1 + 1) + 3 ≤ a + 2; omega) kk
      · rw [if_neg y] at kk
        rw [w0]
        exact ⟨fun c => absurd rfl c, fun _ => kk.no o2 f2⟩
    · rw [if_neg (show ¬ S a = 1035 from z)] at kk
      rw [w0]
      exact ⟨fun _ => kk.yes o1.m at1 (hq.rd o1) (o1 _ _ (by omega)), fun c => absurd rfl c⟩
theorem m_sumR (hS : TS T L n S P N) (hR : RD g T L) (hA : AT g T L n P a) (hq : MQ9 g C q) (hb : C + q.1 + 3 ≤ a) (kk : ML g T L n P C (smR S N a q) K) : Ct Γ l (d + 7) b yX12_readSum mX12_readSum [vR 171] (stt g) K := by
  have w0 : wr 0 = 0 := by decide +kernel
  have w1 : wr 1 = 1 := by decide +kernel
  have hn := hS.1.1
  unfold smR at kk
  apply wpX12_readSum
  refine m_part hS hR hA hq (by omega) (fun y g2 o2 at2 q2 h2 => bI_in ?_) (fun y g2 o2 f2 => bI_in ?_)
  · rw [if_pos y] at kk
    rw [w1]
    refine ⟨fun _ => ?_, fun c => absurd (show (1 : Int) ≠ 0 by decide) c⟩
    have e1 : (ptQ S N a q).1 = q.1 + 1 := by
      unfold ptQ
      by_cases w : S a = 1036
      · rw [if_pos w]; rfl
      · rw [if_neg w]; rfl
    have := hA.a0
    exact m_sumL hS 401 (a + 1) g2 _ (by omega) (hR.om o2) at2 q2 (by omega) (kk.up o2 h2)
  · rw [if_neg y] at kk
    rw [w0]
    exact ⟨fun c => absurd rfl c, fun _ => kk.no o2 f2⟩
end MC9
