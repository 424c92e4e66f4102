/-! A TEXT OF THE LAW: the class reads conditions, all of them -/
section LD9
variable {Γ : Cfg} {l : Launch} {g : GG} {T S P N : Int → Int} {L n p e a B : Int}
def rkM (md : Nat) : Int := if md = 0 then 3 else if md = 1 then 2 else 1
def dpM (md : Nat) (dp : Int) : Int := 3 + 3 * (6 - dp) + (if md = 0 ∨ md = 3 then 2 else if md = 1 ∨ md = 4 then 1 else 0)
theorem k_cond (hS : TS T L n S P N) : ∀ (F md : Nat) (dp a : Int) (g : GG) (q : QQ) (ty : List Bool) (y3 : Int) (x b : Nat) (K : Ou → HP → Prop), 6 * (n - a) + rkM md ≤ F → 0 ≤ dp → dp ≤ 6 → a ≤ n → (ty.length : Int) ≤ bdM md dp → GQ q (if 3 ≤ md then true :: ty else ty) → CQ g n S P N → CP g S P N a → LQ g B q → B + q.1 + 3 ≤ a → 0 ≤ y3 → y3 + 3 ≤ a → dpM md dp ≤ x → KL g n S P N B (cdR S N F md dp a q) K →
    (md = 0 → Ct Γ l x b yX4_readAny mX4_readAny [vR 38, vR 4, vI dp] (stt g) K) ∧ (md = 1 → Ct Γ l x b yX4_readAll mX4_readAll [vR 38, vR 4, vI dp] (stt g) K) ∧ (md = 2 → Ct Γ l x b yX4_readAtom mX4_readAtom [vR 38, vR 4, vI dp] (stt g) K) ∧ (md = 3 → AW Γ l mX4_readAny x b 13 [vR 38, vR 4, vI dp, vI y3] [] (stt g) K) ∧ (md = 4 → AW Γ l mX4_readAll x b 13 [vR 38, vR 4, vI dp, vI y3] [] (stt g) K) := by
  have w0 : wr 0 = 0 := by decide +kernel
  have w1 : wr 1 = 1 := by decide +kernel
  have hn := hS.1.1
  intro F
  induction F with
  | zero =>
    intro md dp a g q ty y3 x b K hf _ _ an
    exfalso
    unfold rkM at hf
    by_cases c : md = 0
    · rw [if_pos c] at hf; omega
    · by_cases c1 : md = 1
      · rw [if_neg c, if_pos c1] at hf; omega
      · rw [if_neg c, if_neg c1] at hf; omega
  | succ F ih =>
    intro md dp a g q ty y3 x b K hf d0 d1 an hl hg cq cp lq hb y30 y3a hx kk
    have lq1 := lq.1
    have a0 : 0 ≤ a := by omega
    have sg := hS.sg a0 an
    unfold cdR at kk
    refine ⟨fun m => ?_, fun m => ?_, fun m => ?_, fun m => ?_, fun m => ?_⟩
    · subst m
      rw [if_pos rfl] at kk
      have hx : 3 + 3 * (6 - dp) + 2 ≤ (x : Int) := hx
      have hf : 6 * (n - a) + 3 ≤ ((F + 1 : Nat) : Int) := hf
      have hl : (ty.length : Int) ≤ 2 * dp + 0 := hl
      have hg : GQ q ty := hg
      obtain ⟨x', rfl⟩ : ∃ x', x = x' + 1 := ⟨x - 1, by omega⟩
      have r := cd_ok hS F 1 dp a q ty d0 d1 (by decide) a0 an (show (ty.length : Int) ≤ 2 * dp + 1 by omega) hg
      have sub := fun K' => ih 1 dp a g q ty y3 x' 0 K' (show 6 * (n - a) + 2 ≤ (F : Int) by omega) d0 d1 an (show (ty.length : Int) ≤ 2 * dp + 1 by omega) hg cq cp lq hb y30 y3a (show 3 + 3 * (6 - dp) + 1 ≤ (x' : Int) by omega)
      generalize cdR S N F 1 dp a q = r1 at kk r sub
      simp only at kk
      apply wpX4_readAny LA38
      refine (sub _ fun g1 o1 p1 h1 => bI_in ?_).2.1 rfl
      by_cases z : r1.1 = true
      · rw [if_pos z] at kk ⊢
        rw [w1]
        refine ⟨fun _ => ?_, fun c => absurd (show (1 : Int) ≠ 0 by decide) c⟩
        have rz := r.2 z
        have rz3 := rz.2.2 (by decide)
        exact (ih 3 dp r1.2.1 g1 r1.2.2 ty 0 (x' + 1) b K (show 6 * (n - r1.2.1) + 1 ≤ (F : Int) by omega) d0 d1 r.1.2 (show (ty.length : Int) ≤ 2 * dp + 0 by omega) rz.1 (cq.ol o1) p1 (h1 z) (by omega) (by decide) (by omega) (show 3 + 3 * (6 - dp) + 2 ≤ ((x' + 1 : Nat) : Int) by omega) (kk.up o1)).2.2.2.1 rfl
      · rw [if_neg z] at kk ⊢
        rw [w0]
        exact ⟨fun c => absurd rfl c, fun _ => kk.fl z o1 p1⟩
    · subst m
      rw [if_neg (by decide), if_pos rfl] at kk
      have hx : 3 + 3 * (6 - dp) + 1 ≤ (x : Int) := hx
      have hf : 6 * (n - a) + 2 ≤ ((F + 1 : Nat) : Int) := hf
      have hl : (ty.length : Int) ≤ 2 * dp + 1 := hl
      have hg : GQ q ty := hg
      obtain ⟨x', rfl⟩ : ∃ x', x = x' + 1 := ⟨x - 1, by omega⟩
      have r := cd_ok hS F 2 dp a q ty d0 d1 (by decide) a0 an (show (ty.length : Int) ≤ 2 * dp + 2 by omega) hg
      have sub := fun K' => ih 2 dp a g q ty y3 x' 0 K' (show 6 * (n - a) + 1 ≤ (F : Int) by omega) d0 d1 an (show (ty.length : Int) ≤ 2 * dp + 2 by omega) hg cq cp lq hb y30 y3a (show 3 + 3 * (6 - dp) + 0 ≤ (x' : Int) by omega)
      generalize cdR S N F 2 dp a q = r1 at kk r sub
      simp only at kk
      apply wpX4_readAll LA38
      refine (sub _ fun g1 o1 p1 h1 => bI_in ?_).2.2.1 rfl
      by_cases z : r1.1 = true
      · rw [if_pos z] at kk ⊢
        rw [w1]
        refine ⟨fun _ => ?_, fun c => absurd (show (1 : Int) ≠ 0 by decide) c⟩
        have rz := r.2 z
        have rz3 := rz.2.2 (by decide)
        exact (ih 4 dp r1.2.1 g1 r1.2.2 ty 0 (x' + 1) b K (show 6 * (n - r1.2.1) + 1 ≤ (F : Int) by omega) d0 d1 r.1.2 (show (ty.length : Int) ≤ 2 * dp + 1 by omega) rz.1 (cq.ol o1) p1 (h1 z) (by omega) (by decide) (by omega) (show 3 + 3 * (6 - dp) + 1 ≤ ((x' + 1 : Nat) : Int) by omega) (kk.up o1)).2.2.2.2 rfl
      · rw [if_neg z] at kk ⊢
        rw [w0]
        exact ⟨fun c => absurd rfl c, fun _ => kk.fl z o1 p1⟩
    · subst m
      rw [if_neg (by decide), if_neg (by decide), if_neg (by decide), if_neg (by decide)] at kk
      have hx : 3 + 3 * (6 - dp) + 0 ≤ (x : Int) := hx
      have hf : 6 * (n - a) + 1 ≤ ((F + 1 : Nat) : Int) := hf
      have hl : (ty.length : Int) ≤ 2 * dp + 2 := hl
      have hg : GQ q ty := hg
      obtain ⟨x', rfl⟩ : ∃ x', x = x' + 3 := ⟨x - 3, by omega⟩
      have sf := sgF_rng sg
      apply wpX4_readAtom LA38
      rw [cp.2.1, wr_id (x := dp) (by omega) (by omega)]
      refine ⟨sg, fun n1 => ⟨sg, fun n2 => ⟨sg, fun n3 => ⟨sg, ?_⟩, fun n3 => ?_⟩, fun n2 => ?_⟩, fun n1 => ?_⟩
      · rw [if_neg n1, if_neg n2, if_pos (by omega)] at kk
        have al : a < n := hS.lt an (by omega)
        refine k_em (c := sgF (S a)) (x := 0) lq (by omega) ?_ fun g1 l1 o1 => bV_in ?_
        · unfold csW; rw [if_pos (by omega)]; omega
        · refine k_st hS (cq.ol o1.l) (cp.oe o1) a0 al fun g2 p2 q2 o2 => bV_in ?_
          exact kk.yes (o1.l.trans o2.l) p2 (l1.ot o2)
      · rw [if_neg n1, if_neg n2, if_neg (by omega)] at kk
        refine k_cmp hS an cq cp lq hb fun g1 o1 p1 h1 => bI_in ?_
        have k := kk g1 o1 p1 h1
        by_cases z : (cmR S N a q).1 = true
        · rw [if_pos z] at k ⊢; exact ⟨Or.inr w1, k⟩
        · rw [if_neg z] at k ⊢; exact ⟨Or.inl w0, k⟩
      · rw [if_neg n1, if_pos n2] at kk
        refine ⟨fun dd => ?_, fun dd => ?_⟩
        · rw [if_neg (by omega)] at kk
          have al : a < n := hS.lt an (by omega)
          refine k_st hS cq cp a0 al fun g1 p1 q1 o1 => bV_in ?_
          have hl2 : (ty.length : Int) ≤ bdM 0 (dp + 1) := by unfold bdM; simp; omega
          have r := cd_ok hS F 0 (dp + 1) (a + 1) q ty (by omega) (by omega) (by decide) (by omega) (by omega) hl2 hg
          have sub := fun K' => ih 0 (dp + 1) (a + 1) g1 q ty 0 (x' + 2) 0 K' (show 6 * (n - (a + 1)) + 3 ≤ (F : Int) by omega) (by omega) (by omega) (by omega) hl2 hg q1 p1 (lq.ot o1) (by omega) (by decide) (by omega) (show 3 + 3 * (6 - (dp + 1)) + 2 ≤ ((x' + 2 : Nat) : Int) by omega)
          generalize cdR S N F 0 (dp + 1) (a + 1) q = r1 at kk r sub
          simp only at kk
          refine (sub _ fun g2 o2 p2 h2 => bI_in ?_).1 rfl
          have kk := kk.up o1.l
          by_cases z : r1.1 = true
          · rw [if_pos z] at kk ⊢
            rw [w1]
            have rz := r.2 z
            refine ⟨fun c => absurd c (by decide), fun _ => ?_⟩
            rw [p2.2.1]
            refine ⟨hS.sg (by omega) r.1.2, fun v => ?_, fun v => ?_⟩
            · rw [if_pos v] at kk
              refine k_st hS (q1.ol o2) p2 (by omega) (hS.lt r.1.2 (by omega)) fun g3 p3 q3 o3 => bV_in ?_
              exact kk.yes (o2.trans o3.l) p3 ((h2 z).ot o3)
            · rw [if_neg v] at kk
              exact kk.no o2 p2
          · rw [if_neg z] at kk ⊢
            rw [w0]
            exact ⟨fun _ => kk.fl z o2 p2, fun c => absurd rfl c⟩
        · rw [if_pos (by omega)] at kk
          exact kk.no oL.refl cp
      · rw [if_pos n1] at kk
        refine ⟨fun dd => ?_, fun dd => ?_⟩
        · rw [if_neg (by omega)] at kk
          have al : a < n := hS.lt an (by omega)
          refine k_st hS cq cp a0 al fun g1 p1 q1 o1 => bV_in ?_
          have hl2 : (ty.length : Int) ≤ bdM 2 (dp + 1) := by unfold bdM; simp; omega
          have r := cd_ok hS F 2 (dp + 1) (a + 1) q ty (by omega) (by omega) (by decide) (by omega) (by omega) hl2 hg
          have sub := fun K' => ih 2 (dp + 1) (a + 1) g1 q ty 0 (x' + 2) 0 K' (show 6 * (n - (a + 1)) + 1 ≤ (F : Int) by omega) (by omega) (by omega) (by omega) hl2 hg q1 p1 (lq.ot o1) (by omega) (by decide) (by omega) (show 3 + 3 * (6 - (dp + 1)) + 0 ≤ ((x' + 2 : Nat) : Int) by omega)
          generalize cdR S N F 2 (dp + 1) (a + 1) q = r1 at kk r sub
          simp only at kk
          refine (sub _ fun g2 o2 p2 h2 => bI_in ?_).2.2.1 rfl
          have kk := kk.up o1.l
          by_cases z : r1.1 = true
          · rw [if_pos z] at kk ⊢
            rw [w1]
            have rz := r.2 z
            refine ⟨fun _ => ?_, fun c => absurd (show (1 : Int) ≠ 0 by decide) c⟩
            refine k_em (c := 14) (x := 0) (h2 z) (by omega) (by decide +kernel) fun g3 l3 o3 => bV_in ?_
            exact kk.yes (o2.trans o3.l) (p2.oe o3) l3
          · rw [if_neg z] at kk ⊢
            rw [w0]
            exact ⟨fun c => absurd rfl c, fun _ => kk.fl z o2 p2⟩
        · rw [if_pos (by omega)] at kk
          exact kk.no oL.refl cp
    · subst m
      rw [if_neg (by decide), if_neg (by decide), if_pos rfl] at kk
      have hx : 3 + 3 * (6 - dp) + 2 ≤ (x : Int) := hx
      have hf : 6 * (n - a) + 1 ≤ ((F + 1 : Nat) : Int) := hf
      have hl : (ty.length : Int) ≤ 2 * dp + 0 := hl
      have hg : GQ q (true :: ty) := hg
      obtain ⟨x', rfl⟩ : ∃ x', x = x' + 2 := ⟨x - 2, by omega⟩
      apply wpX4_readAny_13 LA38
      rw [cp.2.1, wr_id (x := y3) (by omega) (by omega)]
      refine ⟨fun c => absurd c (by omega), fun _ => ⟨sg, fun n1 => ?_, fun n1 => ?_⟩⟩
      · rw [if_neg n1] at kk
        exact kk.yes oL.refl cp lq
      · rw [if_pos n1] at kk
        have al : a < n := hS.lt an (by omega)
        refine k_st hS cq cp a0 al fun g1 p1 q1 o1 => bV_in ?_
        have hl2 : ((true :: ty).length : Int) ≤ bdM 1 dp := by unfold bdM; simp; omega
        have r := cd_ok hS F 1 dp (a + 1) q (true :: ty) d0 d1 (by decide) (by omega) (by omega) hl2 hg
        have sub := fun K' => ih 1 dp (a + 1) g1 q (true :: ty) 0 (x' + 1) 0 K' (show 6 * (n - (a + 1)) + 2 ≤ (F : Int) by omega) d0 d1 (by omega) hl2 hg q1 p1 (lq.ot o1) (by omega) (by decide) (by omega) (show 3 + 3 * (6 - dp) + 1 ≤ ((x' + 1 : Nat) : Int) by omega)
        generalize cdR S N F 1 dp (a + 1) q = r1 at kk r sub
        simp only at kk
        refine (sub _ fun g2 o2 p2 h2 => bI_in ?_).2.1 rfl
        have kk := kk.up o1.l
        by_cases z : r1.1 = true
        · rw [if_pos z] at kk ⊢
          rw [w1]
          have rz := r.2 z
          have rz3 := rz.2.2 (by decide)
          refine ⟨fun _ => ?_, fun c => absurd (show (1 : Int) ≠ 0 by decide) c⟩
          refine k_em (c := 16) (x := 0) (h2 z) (by omega) (by decide +kernel) fun g3 l3 o3 => bV_in ?_
          have g9 := rz.1.add (c := 16) (x := 0) (ty' := true :: ty) rfl (by simp only [List.length_cons]; omega) (by decide) (by decide) (fun q => absurd q (by decide))
          exact (ih 3 dp r1.2.1 g3 (adQ r1.2.2 16 0) ty (y3 + 1) (x' + 2) b K (show 6 * (n - r1.2.1) + 1 ≤ (F : Int) by omega) d0 d1 r.1.2 (show (ty.length : Int) ≤ 2 * dp + 0 by omega) g9 ((q1.ol o2).ol o3.l) (p2.oe o3) l3 (show B + (r1.2.2.1 + 1) + 3 ≤ r1.2.1 by omega) (by omega) (by omega) (show 3 + 3 * (6 - dp) + 2 ≤ ((x' + 2 : Nat) : Int) by omega) (kk.up (o2.trans o3.l))).2.2.2.1 rfl
        · rw [if_neg z] at kk ⊢
          rw [w0]
          exact ⟨fun c => absurd rfl c, fun _ => kk.fl z o2 p2⟩
    · subst m
      rw [if_neg (by decide), if_neg (by decide), if_neg (by decide), if_pos rfl] at kk
      have hx : 3 + 3 * (6 - dp) + 1 ≤ (x : Int) := hx
      have hf : 6 * (n - a) + 1 ≤ ((F + 1 : Nat) : Int) := hf
      have hl : (ty.length : Int) ≤ 2 * dp + 1 := hl
      have hg : GQ q (true :: ty) := hg
      obtain ⟨x', rfl⟩ : ∃ x', x = x' + 2 := ⟨x - 2, by omega⟩
      apply wpX4_readAll_13 LA38
      rw [cp.2.1, wr_id (x := y3) (by omega) (by omega)]
      refine ⟨fun c => absurd c (by omega), fun _ => ⟨sg, fun n1 => ?_, fun n1 => ?_⟩⟩
      · rw [if_neg n1] at kk
        exact kk.yes oL.refl cp lq
      · rw [if_pos n1] at kk
        have al : a < n := hS.lt an (by omega)
        refine k_st hS cq cp a0 al fun g1 p1 q1 o1 => bV_in ?_
        have hl2 : ((true :: ty).length : Int) ≤ bdM 2 dp := by unfold bdM; simp; omega
        have r := cd_ok hS F 2 dp (a + 1) q (true :: ty) d0 d1 (by decide) (by omega) (by omega) hl2 hg
        have sub := fun K' => ih 2 dp (a + 1) g1 q (true :: ty) 0 (x' + 1) 0 K' (show 6 * (n - (a + 1)) + 1 ≤ (F : Int) by omega) d0 d1 (by omega) hl2 hg q1 p1 (lq.ot o1) (by omega) (by decide) (by omega) (show 3 + 3 * (6 - dp) + 0 ≤ ((x' + 1 : Nat) : Int) by omega)
        generalize cdR S N F 2 dp (a + 1) q = r1 at kk r sub
        simp only at kk
        refine (sub _ fun g2 o2 p2 h2 => bI_in ?_).2.2.1 rfl
        have kk := kk.up o1.l
        by_cases z : r1.1 = true
        · rw [if_pos z] at kk ⊢
          rw [w1]
          have rz := r.2 z
          have rz3 := rz.2.2 (by decide)
          refine ⟨fun _ => ?_, fun c => absurd (show (1 : Int) ≠ 0 by decide) c⟩
          refine k_em (c := 15) (x := 0) (h2 z) (by omega) (by decide +kernel) fun g3 l3 o3 => bV_in ?_
          have g9 := rz.1.add (c := 15) (x := 0) (ty' := true :: ty) rfl (by simp only [List.length_cons]; omega) (by decide) (by decide) (fun q => absurd q (by decide))
          exact (ih 4 dp r1.2.1 g3 (adQ r1.2.2 15 0) ty (y3 + 1) (x' + 2) b K (show 6 * (n - r1.2.1) + 1 ≤ (F : Int) by omega) d0 d1 r.1.2 (show (ty.length : Int) ≤ 2 * dp + 1 by omega) g9 ((q1.ol o2).ol o3.l) (p2.oe o3) l3 (show B + (r1.2.2.1 + 1) + 3 ≤ r1.2.1 by omega) (by omega) (by omega) (show 3 + 3 * (6 - dp) + 1 ≤ ((x' + 2 : Nat) : Int) by omega) (kk.up (o2.trans o3.l))).2.2.2.2 rfl
        · rw [if_neg z] at kk ⊢
          rw [w0]
          exact ⟨fun c => absurd rfl c, fun _ => kk.fl z o2 p2⟩
end LD9
