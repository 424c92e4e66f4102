/-! A TEXT OF THE LAW: the class reads conditions -/
section LC9
variable {Γ : Cfg} {l : Launch} {d b : Nat} {g : GG} {K : Ou → HP → Prop} {T S P N : Int → Int} {L n p e x y a B : Int} {q : QQ}
theorem k_cmp (hS : TS T L n S P N) (an : a ≤ n) (cq : CQ g n S P N) (cp : CP g S P N a) (lq : LQ g B q) (hb : B + q.1 + 3 ≤ a) (kk : KL g n S P N B (cmR S N a q) K) : Ct Γ l (d + 2) b yX4_readComparison mX4_readComparison [vR 38, vR 4] (stt g) K := by
  have hn := hS.1.1
  have a0 : 0 ≤ a := by have := lq.1; omega
  have a3 : 3 ≤ a := by have := lq.1; omega
  have wm : wr (-1) = -1 := by decide +kernel
  apply wpX4_readComparison LA38
  unfold cmR smR at kk
  refine k_at7 hS a g 0 0 q (by decide) (by decide) (by decide) (by have := lq.1; omega) an cq cp lq hb (fun z => ?_) (fun z g1 o1 p1 q1 l1 => ?_)
  · rw [if_neg z] at kk
    exact kk.no oL.refl cp
  · rw [if_pos z] at kk
    rw [if_pos (show (0 : Int) ≤ 0 by decide)] at l1
    have al := pt_lt hS an z
    have e1 : (ptQ S N a q).1 = q.1 + 1 := by
      unfold ptQ
      by_cases w : S a = 1036
      · rw [if_pos w]; rfl
      · rw [if_neg w]; rfl
    refine k_sum44 hS 401 (a + 1) g1 _ 0 0 (by omega) (by decide) (by omega) (by decide) (by omega) (by omega) q1 p1 l1 (by omega) (fun v g2 o2 p2 => ?_) (fun v g2 y3 y4 o2 p2 l2 ns y30 y40 y4a rn rb => ?_)
    · generalize smL S N 401 (a + 1) (ptQ S N a q) = r at kk v p2
      simp only at kk
      rw [if_neg v] at kk
      exact kk.fl v (o1.trans o2) p2
    · generalize smL S N 401 (a + 1) (ptQ S N a q) = r at kk v p2 l2 ns y4a rn rb
      simp only at kk
      rw [if_pos v] at kk
      have r0 : 0 ≤ r.2.1 := by omega
      have kk := kk.up (o1.trans o2)
      have q2 := q1.ol o2
      have sec : ∀ y2 c : Int, ((y2 = 3 ∧ c = 12 ∧ S r.2.1 = 1033) ∨ (y2 = 4 ∧ c = 13 ∧ S r.2.1 = 1034)) → Ct Γ l (d + 1) 0 yX10_step mX10_step [vR 4] (stt g2) (bV (fun g2 => AW Γ l mX4_readComparison (d + 2) b 7 [vR 38, vR 4, vI y2, vI 0, vI (y4 + 1)] [] (stt g2) K) K) := by
        intro y2 c hc
        have rl : r.2.1 < n := hS.lt rn (by omega)
        rw [if_pos (show S r.2.1 = 1033 ∨ S r.2.1 = 1034 by omega), show (if S r.2.1 = 1033 then (12 : Int) else 13) = c by
          by_cases w : S r.2.1 = 1033
          · rw [if_pos w]; omega
          · rw [if_neg w]; omega] at kk
        refine k_st hS q2 p2 r0 rl fun g3 p3 q3 o3 => bV_in ?_
        have kk := kk.up o3.l
        have l3 := l2.ot o3
        refine k_at7 hS (r.2.1 + 1) g3 0 (y4 + 1) r.2.2 (by decide) (by decide) (by omega) (by omega) (by omega) q3 p3 l3 (by omega) (fun w => ?_) (fun w g4 o4 p4 q4 l4 => ?_)
        · rw [if_neg w] at kk
          exact kk.no oL.refl p3
        · rw [if_pos w] at kk
          rw [if_pos (show (0 : Int) ≤ 0 by decide)] at l4
          have al4 := pt_lt hS (a := r.2.1 + 1) (by omega) w
          have e4 : (ptQ S N (r.2.1 + 1) r.2.2).1 = r.2.2.1 + 1 := by
            unfold ptQ
            by_cases w : S (r.2.1 + 1) = 1036
            · rw [if_pos w]; rfl
            · rw [if_neg w]; rfl
          refine k_sum44 hS 401 (r.2.1 + 1 + 1) g4 _ 0 (y4 + 1) (by omega) (by decide) (by omega) (by omega) (by omega) (by omega) q4 p4 l4 (by omega) (fun v2 g5 o5 p5 => ?_) (fun v2 g5 y3' y4' o5 p5 l5 ns5 _ _ _ sn sb => ?_)
          · generalize smL S N 401 (r.2.1 + 1 + 1) (ptQ S N (r.2.1 + 1) r.2.2) = s at kk v2 p5
            rw [if_neg v2] at kk
            exact kk.fl v2 (o4.trans o5) p5
          · generalize smL S N 401 (r.2.1 + 1 + 1) (ptQ S N (r.2.1 + 1) r.2.2) = s at kk v2 p5 l5 ns5 sn sb
            rw [if_pos v2] at kk
            apply wpX4_readComparison_44 LA38
            rw [p5.2.1, wr_id (x := y2) (by omega) (by omega)]
            have s0 : 0 ≤ s.2.1 := by have := l5.1; omega
            refine ⟨hS.sg s0 sn, fun z => absurd z ns5, fun _ => ⟨fun z => by omega, fun _ => ?_⟩⟩
            refine k_em (c := c) (x := 0) l5 (by omega) ?_ fun g6 l6 o6 => bV_in ?_
            · rcases hc with ⟨rfl, rfl, _⟩ | ⟨rfl, rfl, _⟩
              · decide +kernel
              · decide +kernel
            · exact kk.yes (o4.trans (o5.trans o6.l)) (p5.oe o6) l6
      apply wpX4_readComparison_44 LA38
      rw [p2.2.1, wm]
      have sg := hS.sg r0 rn
      refine ⟨sg, fun z => absurd z ns, fun _ => ⟨fun _ => ⟨sg, fun z => ⟨sg, fun w => absurd z w, fun _ => sec 3 12 (Or.inl ⟨rfl, rfl, z⟩)⟩, fun z => ⟨sg, fun w => ⟨sg, fun _ => sec 4 13 (Or.inr ⟨rfl, rfl, w⟩), fun w2 => absurd w2 z⟩, fun w => ?_⟩⟩, fun z => absurd rfl z⟩⟩
      rw [if_neg (by omega)] at kk
      exact kk.no oL.refl p2
/-- what the modes begin with, how high it may stand -/
def bdM (md : Nat) (dp : Int) : Int := 2 * dp + (if md = 2 then 2 else if md = 1 ∨ md = 4 then 1 else 0)
theorem cd_ok (hS : TS T L n S P N) : ∀ (F md : Nat) (dp a : Int) (q : QQ) (ty : List Bool), 0 ≤ dp → dp ≤ 6 → md ≤ 4 → 0 ≤ a → a ≤ n → (ty.length : Int) ≤ bdM md dp → GQ q (if 3 ≤ md then true :: ty else ty) → (a ≤ (cdR S N F md dp a q).2.1 ∧ (cdR S N F md dp a q).2.1 ≤ n) ∧ ((cdR S N F md dp a q).1 = true → GQ (cdR S N F md dp a q).2.2 (true :: ty) ∧ a + (cdR S N F md dp a q).2.2.1 ≤ (cdR S N F md dp a q).2.1 + q.1 ∧ (md ≤ 2 → a < (cdR S N F md dp a q).2.1)) := by
  intro F
  induction F with
  | zero => intro md dp a q ty d0 d1 m4 a0 a1 hl h; exact ⟨⟨Int.le_refl _, a1⟩, fun z => absurd z Bool.false_ne_true⟩
  | succ F ih =>
    intro md dp a q ty d0 d1 m4 a0 a1 hl h
    unfold cdR
    by_cases c0 : md = 0
    · subst c0
      rw [if_pos rfl]
      have r := ih 1 dp a q ty d0 d1 (by decide) a0 a1 (by unfold bdM at hl ⊢; simp at hl ⊢; omega) h
      generalize cdR S N F 1 dp a q = x at r ⊢
      simp only
      by_cases z : x.1 = true
      · rw [if_pos z]
        have rz := r.2 z
        have s := ih 3 dp x.2.1 x.2.2 ty d0 d1 (by decide) (by omega) r.1.2 (by unfold bdM at hl ⊢; simp at hl ⊢; omega) rz.1
        have rz3 := rz.2.2 (by decide)
        exact ⟨⟨by omega, s.1.2⟩, fun w => ⟨(s.2 w).1, by have := (s.2 w).2.1; omega, fun _ => by omega⟩⟩
      · rw [if_neg z]
        exact ⟨r.1, fun w => absurd w z⟩
    rw [if_neg c0]
    by_cases c1 : md = 1
    · subst c1
      rw [if_pos rfl]
      have r := ih 2 dp a q ty d0 d1 (by decide) a0 a1 (by unfold bdM at hl ⊢; simp at hl ⊢; omega) h
      generalize cdR S N F 2 dp a q = x at r ⊢
      simp only
      by_cases z : x.1 = true
      · rw [if_pos z]
        have rz := r.2 z
        have s := ih 4 dp x.2.1 x.2.2 ty d0 d1 (by decide) (by omega) r.1.2 (by unfold bdM at hl ⊢; simp at hl ⊢; omega) rz.1
        have rz3 := rz.2.2 (by decide)
        exact ⟨⟨by omega, s.1.2⟩, fun w => ⟨(s.2 w).1, by have := (s.2 w).2.1; omega, fun _ => by omega⟩⟩
      · rw [if_neg z]
        exact ⟨r.1, fun w => absurd w z⟩
    rw [if_neg c1]
    have loop : ∀ (m1 m2 : Nat) (s c : Int), (m1 = 3 ∧ m2 = 1 ∧ s = 1020 ∧ c = 16) ∨ (m1 = 4 ∧ m2 = 2 ∧ s = 1021 ∧ c = 15) → md = m1 → (a ≤ (if S a = s then (let r := cdR S N F m2 dp (a + 1) q
      if r.1 = true then cdR S N F m1 dp r.2.1 (adQ r.2.2 c 0) else r) else (true, a, q) : RQ).2.1 ∧ (if S a = s then (let r := cdR S N F m2 dp (a + 1) q
      if r.1 = true then cdR S N F m1 dp r.2.1 (adQ r.2.2 c 0) else r) else (true, a, q) : RQ).2.1 ≤ n) ∧ ((if S a = s then (let r := cdR S N F m2 dp (a + 1) q
      if r.1 = true then cdR S N F m1 dp r.2.1 (adQ r.2.2 c 0) else r) else (true, a, q) : RQ).1 = true → GQ (if S a = s then (let r := cdR S N F m2 dp (a + 1) q
      if r.1 = true then cdR S N F m1 dp r.2.1 (adQ r.2.2 c 0) else r) else (true, a, q) : RQ).2.2 (true :: ty) ∧ a + (if S a = s then (let r := cdR S N F m2 dp (a + 1) q
      if r.1 = true then cdR S N F m1 dp r.2.1 (adQ r.2.2 c 0) else r) else (true, a, q) : RQ).2.2.1 ≤ (if S a = s then (let r := cdR S N F m2 dp (a + 1) q
      if r.1 = true then cdR S N F m1 dp r.2.1 (adQ r.2.2 c 0) else r) else (true, a, q) : RQ).2.1 + q.1) := by
      intro m1 m2 s c hm he
      have h : GQ q (true :: ty) := by rw [if_pos (by omega)] at h; exact h
      by_cases z : S a = s
      · rw [if_pos z]
        have al : a < n := hS.lt a1 (by omega)
        have hl2 : ((true :: ty).length : Int) ≤ bdM m2 dp := by
          rcases hm with ⟨rfl, rfl, _⟩ | ⟨rfl, rfl, _⟩
          · subst he; unfold bdM at hl ⊢; simp at hl ⊢; omega
          · subst he; unfold bdM at hl ⊢; simp at hl ⊢; omega
        have r := ih m2 dp (a + 1) q (true :: ty) d0 d1 (by omega) (by omega) (by omega) hl2 (by rw [if_neg (by omega)]; exact h)
        generalize cdR S N F m2 dp (a + 1) q = x at r ⊢
        simp only
        by_cases w : x.1 = true
        · rw [if_pos w]
          have rw' := r.2 w
          have hty : (ty.length : Int) ≤ 14 := by unfold bdM at hl; rcases hm with ⟨rfl, rfl, _⟩ | ⟨rfl, rfl, _⟩ <;> subst he <;> simp at hl <;> omega
          have g2 := rw'.1.add (c := c) (x := 0) (ty' := true :: ty) (by rcases hm with ⟨_, _, _, rfl⟩ | ⟨_, _, _, rfl⟩ <;> rfl) (by simp only [List.length_cons]; omega) (by omega) (by omega) (fun q => by omega)
          have s2 := ih m1 dp x.2.1 (adQ x.2.2 c 0) ty d0 d1 (by omega) (by omega) r.1.2 (by rw [← he]; exact hl) (by rw [if_pos (by omega)]; exact g2)
          have e2 : (adQ x.2.2 c 0).1 = x.2.2.1 + 1 := rfl
          rw [e2] at s2
          exact ⟨⟨by omega, s2.1.2⟩, fun v => ⟨(s2.2 v).1, by have := (s2.2 v).2.1; omega⟩⟩
        · rw [if_neg w]
          exact ⟨⟨by omega, r.1.2⟩, fun v => absurd v w⟩
      · rw [if_neg z]
        exact ⟨⟨Int.le_refl _, a1⟩, fun _ => ⟨h, Int.le_refl _⟩⟩
    by_cases c3 : md = 3
    · rw [if_pos c3]
      have k := loop 3 1 1020 16 (Or.inl ⟨rfl, rfl, rfl, rfl⟩) c3
      exact ⟨k.1, fun w => ⟨(k.2 w).1, (k.2 w).2, fun z => by omega⟩⟩
    rw [if_neg c3]
    by_cases c4 : md = 4
    · rw [if_pos c4]
      have k := loop 4 2 1021 15 (Or.inr ⟨rfl, rfl, rfl, rfl⟩) c4
      exact ⟨k.1, fun w => ⟨(k.2 w).1, (k.2 w).2, fun z => by omega⟩⟩
    rw [if_neg c4]
    have c2 : md = 2 := by omega
    subst c2
    have hty : (ty.length : Int) ≤ 2 * dp + 2 := by unfold bdM at hl; simp at hl; omega
    have h : GQ q ty := h
    by_cases n1 : S a = 1005
    · rw [if_pos n1]
      by_cases dd : 6 ≤ dp
      · rw [if_pos dd]
        exact ⟨⟨Int.le_refl _, a1⟩, fun z => absurd z Bool.false_ne_true⟩
      · rw [if_neg dd]
        have al : a < n := hS.lt a1 (by omega)
        have r := ih 2 (dp + 1) (a + 1) q ty (by omega) (by omega) (by decide) (by omega) (by omega) (by unfold bdM; simp; omega) h
        generalize cdR S N F 2 (dp + 1) (a + 1) q = x at r ⊢
        simp only
        by_cases w : x.1 = true
        · rw [if_pos w]
          have rw' := r.2 w
          have g2 := rw'.1.add (c := 14) (x := 0) (ty' := true :: ty) rfl (by simp only [List.length_cons]; omega) (by decide) (by decide) (fun q => absurd q (by decide))
          refine ⟨⟨?_, r.1.2⟩, fun _ => ⟨g2, ?_, fun _ => ?_⟩⟩
          · show a ≤ x.2.1; omega
          · show a + (x.2.2.1 + 1) ≤ x.2.1 + q.1; omega
          · show a < x.2.1; omega
        · rw [if_neg w]
          exact ⟨⟨by omega, r.1.2⟩, fun v => absurd v w⟩
    rw [if_neg n1]
    by_cases n2 : S a = 1031
    · rw [if_pos n2]
      by_cases dd : 6 ≤ dp
      · rw [if_pos dd]
        exact ⟨⟨Int.le_refl _, a1⟩, fun z => absurd z Bool.false_ne_true⟩
      · rw [if_neg dd]
        have al : a < n := hS.lt a1 (by omega)
        have r := ih 0 (dp + 1) (a + 1) q ty (by omega) (by omega) (by decide) (by omega) (by omega) (by unfold bdM; simp; omega) h
        generalize cdR S N F 0 (dp + 1) (a + 1) q = x at r ⊢
        simp only
        by_cases w : x.1 = true
        · rw [if_pos w]
          have rw' := r.2 w
          by_cases v : S x.2.1 = 1032
          · rw [if_pos v]
            have xl : x.2.1 < n := hS.lt r.1.2 (by omega)
            refine ⟨⟨?_, ?_⟩, fun _ => ⟨rw'.1, ?_, fun _ => ?_⟩⟩
            · show a ≤ x.2.1 + 1; omega
            · show x.2.1 + 1 ≤ n; omega
            · show a + x.2.2.1 ≤ x.2.1 + 1 + q.1; omega
            · show a < x.2.1 + 1; omega
          · rw [if_neg v]
            exact ⟨⟨by show a ≤ x.2.1; omega, r.1.2⟩, fun z => absurd z Bool.false_ne_true⟩
        · rw [if_neg w]
          exact ⟨⟨by omega, r.1.2⟩, fun v => absurd v w⟩
    rw [if_neg n2]
    by_cases n3 : S a = 1022 ∨ S a = 1023 ∨ S a = 1024
    · rw [if_pos n3]
      have al : a < n := hS.lt a1 (by omega)
      have sf := sgF_rng (hS.sg a0 a1)
      have s79 : 7 ≤ sgF (S a) ∧ sgF (S a) ≤ 9 := by
        rcases n3 with z | z | z
        · have := sf.2.2.1.mpr z; omega
        · have := sf.2.2.2.1.mpr z; omega
        · have := sf.2.2.2.2.mpr z; omega
      have g2 := h.add (c := sgF (S a)) (x := 0) (ty' := true :: ty) (by unfold tyS; rw [if_neg (by omega), if_neg (by omega), if_pos (by omega)]) (by simp only [List.length_cons]; omega) (by omega) (by omega) (fun q => by omega)
      refine ⟨⟨?_, ?_⟩, fun _ => ⟨g2, ?_, fun _ => ?_⟩⟩
      · show a ≤ a + 1; omega
      · show a + 1 ≤ n; omega
      · show a + (q.1 + 1) ≤ a + 1 + q.1; omega
      · show a < a + 1; omega
    · rw [if_neg n3]
      have r := cmR_ok hS a0 a1 h (by omega)
      exact ⟨r.1, fun w => ⟨(r.2 w).1, (r.2 w).2.1, fun _ => (r.2 w).2.2⟩⟩
end LC9
