/-! A TEXT OF THE LAW: the class reads comparisons -/
def LQ (g : GG) (B : Int) (q : QQ) : Prop := (g 38 2 = B + q.1 ∧ 0 ≤ B ∧ 0 ≤ q.1) ∧ ∀ i, 0 ≤ i → i < q.1 → g 39 (B + i) = csW (q.2.1 i) (q.2.2 i)
def oL (B : Int) (g g' : GG) : Prop := ∀ x j, ¬ (x = 4 ∧ 3 ≤ j ∧ j ≤ 6) → ¬ (x = 38 ∧ j = 2) → ¬ (x = 39 ∧ B ≤ j) → g' x j = g x j
def oE (B : Int) (g g' : GG) : Prop := ∀ x j, ¬ (x = 38 ∧ j = 2) → ¬ (x = 39 ∧ B ≤ j) → g' x j = g x j
theorem oL.trans {B : Int} {g1 g2 g3 : GG} (h : oL B g1 g2) (h' : oL B g2 g3) : oL B g1 g3 := fun x j a b c => by rw [h' x j a b c, h x j a b c]
theorem oL.refl {B : Int} {g : GG} : oL B g g := fun _ _ _ _ _ => rfl
theorem oE.l {B : Int} {g g' : GG} (h : oE B g g') : oL B g g' := fun x j _ b c => h x j b c
theorem oT.l {B : Int} {g g' : GG} (h : oT g g') : oL B g g' := fun x j a _ _ => h x j a
theorem CQ.ol {B : Int} {g g' : GG} {n : Int} {S P N : Int → Int} (h : CQ g n S P N) (o : oL B g g') : CQ g' n S P N := fun k k0 k1 => by
  rw [o _ _ (by omega) (by omega) (by omega), o _ _ (by omega) (by omega) (by omega), o _ _ (by omega) (by omega) (by omega)]
  exact h k k0 k1
theorem CP.oe {B : Int} {g g' : GG} {S P N : Int → Int} {a : Int} (h : CP g S P N a) (o : oE B g g') : CP g' S P N a := by
  unfold CP
  rw [o _ _ (by omega) (by omega), o _ _ (by omega) (by omega), o _ _ (by omega) (by omega), o _ _ (by omega) (by omega)]
  exact h
theorem LQ.ot {B : Int} {g g' : GG} {q : QQ} (h : LQ g B q) (o : oT g g') : LQ g' B q := ⟨⟨by rw [o _ _ (by omega)]; exact h.1.1, h.1.2⟩, fun i i0 i1 => by rw [o _ _ (by omega)]; exact h.2 i i0 i1⟩
theorem sgF_rng {s : Int} (h : SG s) : -1 ≤ sgF s ∧ sgF s ≤ 9 ∧ (sgF s = 7 ↔ s = 1022) ∧ (sgF s = 8 ↔ s = 1023) ∧ (sgF s = 9 ↔ s = 1024) := by
  obtain ⟨i, hi, rfl⟩ := h.eq
  have k := of_decide_eq_true (List.all_eq_true.mp (show (List.range 39).all (fun i => decide (-1 ≤ sgFact i ∧ sgFact i ≤ 9 ∧ (sgFact i = 7 ↔ i = 22) ∧ (sgFact i = 8 ↔ i = 23) ∧ (sgFact i = 9 ↔ i = 24))) = true by decide +kernel) i (List.mem_range.mpr hi))
  unfold sgF
  rw [show (1000 + (i : Int) - 1000).toNat = i by omega]
  refine ⟨k.1, k.2.1, ?_, ?_, ?_⟩
  · rw [k.2.2.1]; omega
  · rw [k.2.2.2.1]; omega
  · rw [k.2.2.2.2]; omega
section LR9
variable {Γ : Cfg} {l : Launch} {d b : Nat} {g : GG} {K : Ou → HP → Prop} {T S P N : Int → Int} {L n p e x y a B : Int} {q : QQ}
theorem k_em {x1 x2 c x : Int} (hq : LQ g B q) (hb : B + q.1 < 400) (hc : x1 * 1000 + x2 = csW c x) (kk : ∀ g', LQ g' B (adQ q c x) → oE B g g' → K (.inl vU) (stt g')) : Ct Γ l d b yX4_emit mX4_emit [vR 38, vI x1, vI x2] (stt g) K := by
  obtain ⟨⟨h1, h2, h3⟩, h4⟩ := hq
  apply wpX4_emit LA38
  rw [h1, LA38.l0, wr_id (x := B + q.1) (by omega) (by omega), hc]
  refine ⟨fun z => absurd z (by omega), fun _ => ⟨fun z => absurd z (by omega), fun _ => ⟨by omega, fun g1 e1 => ?_⟩⟩⟩
  have e2 : g1 38 2 = B + q.1 := by rw [e1, upd2_ne (by decide), h1]
  rw [e2]
  refine kk _ ⟨⟨by rw [upd2_eq]; show B + q.1 + 1 = B + (q.1 + 1); omega, h2, by show 0 ≤ q.1 + 1; omega⟩, fun i i0 i1 => ?_⟩ (fun x j a1 a2 => ?_)
  · have i1 : i < q.1 + 1 := i1
    rw [upd2_ne (by decide), e1]
    show upd2 g (38 + 1 + 0) (B + q.1) (csW c x) 39 (B + i) = csW (upV q.2.1 q.1 c i) (upV q.2.2 q.1 x i)
    by_cases z : i = q.1
    · rw [z, upV_eq, upV_eq]; exact upd2_eq
    · rw [upV_ne z, upV_ne z]
      exact (upd2_nj (by omega)).trans (h4 i i0 (by omega))
  · rw [show upd2 g1 38 2 (B + q.1 + 1) x j = g1 x j from if_neg (fun z => a1 ⟨z.2, z.1⟩), e1]
    exact if_neg (fun z => a2 ⟨by omega, by omega⟩)
theorem k_part (hS : TS T L n S P N) (hp : CP g S P N a) (a0 : 0 ≤ a) (a1 : a ≤ n) (hq : LQ g B q) (hb : B + q.1 < 400) (k1 : isPt S a → ∀ g', LQ g' B (ptQ S N a q) → oE B g g' → K (.inl (vI 1)) (stt g')) (k0 : ¬ isPt S a → K (.inl (vI 0)) (stt g)) : Ct Γ l (d + 1) b yX4_emitPart mX4_emitPart [vR 38, vR (S a), vI (N a)] (stt g) K := by
  have sg := hS.sg a0 a1
  have sf := sgF_rng sg
  apply wpX4_emitPart LA38 sg
  rw [wr_id (x := sgF (S a)) (by omega) (by omega)]
  refine ⟨fun z => ⟨fun y => k0 (by omega), fun y => ⟨fun y2 => k0 (by omega), fun y2 => ?_⟩⟩, fun z => ?_⟩
  · refine k_em (c := sgF (S a)) (x := 0) hq hb ?_ fun g' h' o' => bV_in (k1 (Or.inr ⟨by omega, by omega⟩) g' ?_ o')
    · unfold csW; rw [if_pos (by omega)]; omega
    · unfold ptQ; rw [if_neg z]; exact h'
  · refine k_em (c := 10) (x := N a) hq hb ?_ fun g' h' o' => bV_in (k1 (Or.inl z) g' ?_ o')
    · unfold csW; rw [if_neg (by decide), if_pos rfl]; omega
    · unfold ptQ; rw [if_pos z]; exact h'
/-- where a reading of conditions ends in the class -/
def KL (g : GG) (n : Int) (S P N : Int → Int) (B : Int) (r : RQ) (K : Ou → HP → Prop) : Prop := ∀ g', oL B g g' → CP g' S P N r.2.1 → (r.1 = true → LQ g' B r.2.2) → K (.inl (vI (if r.1 = true then 1 else 0))) (stt g')
theorem KL.up {g g' : GG} {r : RQ} (h : KL g n S P N B r K) (o : oL B g g') : KL g' n S P N B r K := fun g2 o2 => h g2 (o.trans o2)
theorem KL.no {g g' : GG} {m : Int} {w : QQ} (h : KL g n S P N B (false, m, w) K) (o : oL B g g') (hp : CP g' S P N m) : K (.inl (vI 0)) (stt g') := h g' o hp (fun z => absurd z Bool.false_ne_true)
theorem KL.yes {g g' : GG} {m : Int} {w : QQ} (h : KL g n S P N B (true, m, w) K) (o : oL B g g') (hp : CP g' S P N m) (hq : LQ g' B w) : K (.inl (vI 1)) (stt g') := h g' o hp (fun _ => hq)
theorem KL.fl {g g' : GG} {r : RQ} (h : KL g n S P N B r K) (hr : ¬ r.1 = true) (o : oL B g g') (hp : CP g' S P N r.2.1) : K (.inl (vI 0)) (stt g') := by
  have := h g' o hp (fun z => absurd z hr)
  rw [if_neg hr] at this
  exact this
theorem k_at7 {y2 : Int} (hS : TS T L n S P N) (a : Int) (g : GG) (y3 y4 : Int) (q : QQ) (y30 : 0 ≤ y3) (y3a : y3 ≤ 400) (y40 : 0 ≤ y4) (y4a : y4 + 3 ≤ a) (an : a ≤ n) (cq : CQ g n S P N) (cp : CP g S P N a) (lq : LQ g B q) (hb : B + q.1 + 3 ≤ a) (k0 : ¬ isPt S a → K (.inl (vI 0)) (stt g)) (k1 : isPt S a → ∀ g', oL B g g' → CP g' S P N (a + 1) → CQ g' n S P N → LQ g' B (if y3 ≤ 0 then ptQ S N a q else adQ (ptQ S N a q) 11 0) → AW Γ l mX4_readComparison (d + 2) b 44 [vR 38, vR 4, vI y2, vI y3, vI y4] [] (stt g') K) : AW Γ l mX4_readComparison (d + 2) b 7 [vR 38, vR 4, vI y2, vI y3, vI y4] [] (stt g) K := by
  have hn := hS.1.1
  have w0 : wr 0 = 0 := by decide +kernel
  have w1 : wr 1 = 1 := by decide +kernel
  apply wpX4_readComparison_7 LA38
  rw [wr_id (x := y4) (by omega) (by omega), cp.2.1, cp.2.2.2, wr_id (x := y3) (by omega) (by omega)]
  refine ⟨fun z => absurd z (by omega), fun _ => ?_⟩
  refine k_part hS cp (by omega) an lq (by omega) (fun z g1 l1 o1 => bI_in ?_) (fun z => bI_in ?_)
  · rw [w1]
    refine ⟨fun c => absurd c (by decide), fun _ => ?_⟩
    have al := pt_lt hS an z
    refine k_st hS (cq.ol o1.l) (cp.oe o1) (by omega) al fun g2 p2 q2 o2 => bV_in ?_
    have k1 := k1 z
    have e1 : (ptQ S N a q).1 = q.1 + 1 := by
      unfold ptQ
      by_cases w : S a = 1036
      · rw [if_pos w]; rfl
      · rw [if_neg w]; rfl
    refine ⟨fun c => ?_, fun c => ?_⟩
    · rw [if_pos c] at k1
      exact k1 g2 (o1.l.trans o2.l) p2 q2 (l1.ot o2)
    · rw [if_neg c] at k1
      refine k_em (c := 11) (x := 0) (l1.ot o2) (by omega) (by decide +kernel) fun g3 l3 o3 => bV_in ?_
      exact k1 g3 (o1.l.trans (o2.l.trans o3.l)) (p2.oe o3) (q2.ol o3.l) l3
  · rw [w0]
    exact ⟨fun _ => k0 z, fun c => absurd rfl c⟩
theorem k_sum44 {y2 : Int} (hS : TS T L n S P N) : ∀ (f : Nat) (a : Int) (g : GG) (q : QQ) (y3 y4 : Int), n - a < f → 0 ≤ y3 → y3 ≤ a → 0 ≤ y4 → y4 + 3 ≤ a → a ≤ n → CQ g n S P N → CP g S P N a → LQ g B q → B + q.1 + 3 ≤ a → (¬ (smL S N f a q).1 = true → ∀ g', oL B g g' → CP g' S P N (smL S N f a q).2.1 → K (.inl (vI 0)) (stt g')) → ((smL S N f a q).1 = true → ∀ g' y3' y4', oL B g g' → CP g' S P N (smL S N f a q).2.1 → LQ g' B (smL S N f a q).2.2 → S (smL S N f a q).2.1 ≠ 1035 → 0 ≤ y3' → 0 ≤ y4' → y4' + 3 ≤ (smL S N f a q).2.1 → (smL S N f a q).2.1 ≤ n → B + (smL S N f a q).2.2.1 + 3 ≤ (smL S N f a q).2.1 → AW Γ l mX4_readComparison (d + 2) b 44 [vR 38, vR 4, vI y2, vI y3', vI y4'] [] (stt g') K) → AW Γ l mX4_readComparison (d + 2) b 44 [vR 38, vR 4, vI y2, vI y3, vI y4] [] (stt g) K := by
  have hn := hS.1.1
  intro f
  induction f with
  | zero => intro a g q y3 y4 hf; omega
  | succ f ih =>
    intro a g q y3 y4 hf y30 y3a y40 y4a an cq cp lq hb kf kt
    unfold smL at kf kt
    by_cases c : S a = 1035
    · rw [if_pos c] at kf kt
      apply wpX4_readComparison_44 LA38
      rw [cp.2.1]
      refine ⟨hS.sg (by omega) an, fun _ => ?_, fun z => absurd c z⟩
      have al : a < n := hS.lt an (by omega)
      refine k_st hS cq cp (by omega) al fun g1 p1 q1 o1 => bV_in ?_
      refine k_at7 hS (a + 1) g1 (y3 + 1) (y4 + 1) q (by omega) (by omega) (by omega) (by omega) (by omega) q1 p1 (lq.ot o1) (by omega) (fun z => ?_) (fun z g2 o2 p2 q2 l2 => ?_)
      · rw [if_neg z] at kf
        exact kf Bool.false_ne_true g1 o1.l p1
      · rw [if_pos z] at kf kt
        rw [if_neg (by omega)] at l2
        rw [show a + 1 + 1 = a + 2 by omega] at p2
        have e1 : (adQ (ptQ S N (a + 1) q) 11 0).1 = q.1 + 2 := by
          unfold ptQ
          by_cases w : S (a + 1) = 1036
          · rw [if_pos w]; show q.1 + 1 + 1 = q.1 + 2; omega
          · rw [if_neg w]; show q.1 + 1 + 1 = q.1 + 2; omega
        have al2 := pt_lt hS (a := a + 1) (by omega) z
        exact ih (a + 2) g2 _ (y3 + 1) (y4 + 1) (by omega) (by omega) (by omega) (by omega) (by omega) (by omega) q2 p2 l2 (by omega) (fun v g' o' => kf v g' (o1.l.trans (o2.trans o'))) (fun v g' y3' y4' o' => kt v g' y3' y4' (o1.l.trans (o2.trans o')))
    · rw [if_neg c] at kt
      exact kt rfl g y3 y4 oL.refl cp lq c y30 y40 y4a an hb
end LR9
