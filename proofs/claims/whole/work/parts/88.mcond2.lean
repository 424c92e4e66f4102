/-! A TEXT OF THE LAW: the reference reads conditions -/
section MD9
variable {Γ : Cfg} {l : Launch} {d b : Nat} {g : GG} {K : Ou → HP → Prop} {T S P N : Int → Int} {L n p e x y a C : Int} {q : QQ}
theorem m_tag (hS : TS T L n S P N) (hR : RD g T L) (hA : AT g T L n P a) (hq : MQ9 g C q) (hb : C + q.1 + 3 ≤ a) (k1 : (S a = 1022 ∨ S a = 1023 ∨ S a = 1024) → ∀ g', oM C g g' → AT g' T L n P (a + 1) → MQ9 g' C (adQ q (sgF (S a)) 0) → g' 171 13 = g 171 13 → K (.inl (vI 1)) (stt g')) (k0 : ¬ (S a = 1022 ∨ S a = 1023 ∨ S a = 1024) → ∀ g', oRd g g' → AT g' T L n P a → K (.inl (vI 0)) (stt g')) : Ct Γ l (d + 5) b yX12_readTag mX12_readTag [vR 171] (stt g) K := by
  have w0 : wr 0 = 0 := by decide +kernel
  have w1 : wr 1 = 1 := by decide +kernel
  have hn := hS.1.1
  have an := hA.a1
  have go : ∀ {A B : Prop}, A → (wr 1 = 0 → B) ∧ (¬ wr 1 = 0 → A) := fun h => ⟨fun c => absurd c (by rw [w1]; decide), fun _ => h⟩
  have no : ∀ {A B : Prop}, B → (wr 0 = 0 → B) ∧ (¬ wr 0 = 0 → A) := fun h => ⟨fun _ => h, fun c => absurd w0 c⟩
  apply wpX12_readTag
  refine m_let hS hR hA fun g1 o1 l1 => bV_in ?_
  have hR1 := hR.op o1
  have q1 := hq.rd o1
  have yes : ∀ s c : Int, S a = s → sgF s = c → (s = 1022 ∨ s = 1023 ∨ s = 1024) → AT g1 T L n P (a + 1) → ∀ g2, MQ9 g2 C (adQ q c 0) → oN C g1 g2 → K (.inl (vI 1)) (stt g2) := fun s c hs hc h3 at1 g2 q2 o2 => k1 (by omega) g2 (o1.m.trans o2.m) (at1.on o2) (by rw [hs, hc]; exact q2) (by rw [o2 _ _ (by omega) (by omega), o1 _ _ (by omega)])
  refine m_wd 2036 22 ⟨by decide, by decide⟩ (by decide +kernel) (by decide) hS hR1 hA.a0 an l1 (fun z at1 => bI_in (go ?_)) (fun z0 => bI_in (no ?_))
  · exact m_em (c := 7) (x := 0) q1 (by omega) fun g2 q2 o2 => bV_in (yes 1022 7 z (by decide +kernel) (by decide) at1 g2 q2 o2)
  refine m_wd 2037 23 ⟨by decide, by decide⟩ (by decide +kernel) (by decide) hS hR1 hA.a0 an l1 (fun z at1 => bI_in (go ?_)) (fun z1 => bI_in (no ?_))
  · exact m_em (c := 8) (x := 0) q1 (by omega) fun g2 q2 o2 => bV_in (yes 1023 8 z (by decide +kernel) (by decide) at1 g2 q2 o2)
  refine m_wd 2038 24 ⟨by decide, by decide⟩ (by decide +kernel) (by decide) hS hR1 hA.a0 an l1 (fun z at1 => bI_in (go ?_)) (fun z2 => bI_in (no ?_))
  · exact m_em (c := 9) (x := 0) q1 (by omega) fun g2 q2 o2 => bV_in (yes 1024 9 z (by decide +kernel) (by decide) at1 g2 q2 o2)
  exact k0 (by omega) _ (o1.trans (oRd.at g1 (Or.inl rfl))) (AT.self hS hA.a0 an (by rw [upd2_eq]; exact l1.1))
theorem m_cond (hS : TS T L n S P N) : ∀ (F md : Nat) (dp a : Int) (g : GG) (q : QQ) (ty : List Bool) (x b : Nat) (K : Ou → HP → Prop), 6 * (n - a) + rkM md ≤ F → 0 ≤ dp → dp ≤ 6 → (ty.length : Int) ≤ bdM md dp → GQ q (if 3 ≤ md then true :: ty else ty) → RD g T L → AT g T L n P a → MQ9 g C q → g 171 13 = dp → C + q.1 + 3 ≤ a → 5 + dpM md dp ≤ x → ML g T L n P C (cdR S N F md dp a q) K →
    (md = 0 → Ct Γ l x b yX12_readCond mX12_readCond [vR 171] (stt g) K) ∧ (md = 1 → Ct Γ l x b yX12_readAllOf mX12_readAllOf [vR 171] (stt g) K) ∧ (md = 2 → Ct Γ l x b yX12_readAtom mX12_readAtom [vR 171] (stt g) K) ∧ (md = 3 → AW Γ l mX12_readCond x b 9 [vR 171] [] (stt g) K) ∧ (md = 4 → AW Γ l mX12_readAllOf x b 9 [vR 171] [] (stt g) K) := by
  have w0 : wr 0 = 0 := by decide +kernel
  have w1 : wr 1 = 1 := by decide +kernel
  have hn := hS.1.1
  intro F
  induction F with
  | zero =>
    intro md dp a g q ty x b K hf _ _ _ _ _ hA
    exfalso
    have an := hA.a1
    unfold rkM at hf
    by_cases c : md = 0
    · rw [if_pos c] at hf; omega
    · by_cases c1 : md = 1
      · rw [if_neg c, if_pos c1] at hf; omega
      · rw [if_neg c, if_neg c1] at hf; omega
  | succ F ih =>
    intro md dp a g q ty x b K hf d0 d1 hl hg hR hA lq h13 hb hx kk
    have lq1 := lq.1
    have a0 := hA.a0
    have an := hA.a1
    unfold cdR at kk
    refine ⟨fun m => ?_, fun m => ?_, fun m => ?_, fun m => ?_, fun m => ?_⟩
    · subst m
      rw [if_pos rfl] at kk
      have hx : 5 + (3 + 3 * (6 - dp) + 2) ≤ (x : Int) := hx
      have hf : 6 * (n - a) + 3 ≤ ((F + 1 : Nat) : Int) := hf
      have hl : (ty.length : Int) ≤ 2 * dp + 0 := hl
      have hg : GQ q ty := hg
      obtain ⟨x', rfl⟩ : ∃ x', x = x' + 1 := ⟨x - 1, by omega⟩
      have r := cd_ok hS F 1 dp a q ty d0 d1 (by decide) a0 an (show (ty.length : Int) ≤ 2 * dp + 1 by omega) hg
      have sub := fun K' => ih 1 dp a g q ty x' 0 K' (show 6 * (n - a) + 2 ≤ (F : Int) by omega) d0 d1 (show (ty.length : Int) ≤ 2 * dp + 1 by omega) hg hR hA lq h13 hb (show 5 + (3 + 3 * (6 - dp) + 1) ≤ (x' : Int) by omega)
      generalize cdR S N F 1 dp a q = r1 at kk r sub
      simp only at kk
      apply wpX12_readCond
      refine (sub _ fun g1 o1 y1 n1 => bI_in ?_).2.1 rfl
      by_cases z : r1.1 = true
      · rw [if_pos z] at kk ⊢
        rw [w1]
        refine ⟨fun _ => ?_, fun c => absurd (show (1 : Int) ≠ 0 by decide) c⟩
        have rz := r.2 z
        have rz3 := rz.2.2 (by decide)
        have y := y1 z
        exact (ih 3 dp r1.2.1 g1 r1.2.2 ty (x' + 1) b K (show 6 * (n - r1.2.1) + 1 ≤ (F : Int) by omega) d0 d1 (show (ty.length : Int) ≤ 2 * dp + 0 by omega) rz.1 (hR.om o1) y.1 y.2.1 (by rw [y.2.2, h13]) (by omega) (show 5 + (3 + 3 * (6 - dp) + 2) ≤ ((x' + 1 : Nat) : Int) by omega) (kk.up o1 y.2.2)).2.2.2.1 rfl
      · rw [if_neg z] at kk ⊢
        rw [w0]
        exact ⟨fun c => absurd rfl c, fun _ => kk.fl z o1 (n1 z)⟩
    · subst m
      rw [if_neg (by decide), if_pos rfl] at kk
      have hx : 5 + (3 + 3 * (6 - dp) + 1) ≤ (x : Int) := hx
      have hf : 6 * (n - a) + 2 ≤ ((F + 1 : Nat) : Int) := hf
      have hl : (ty.length : Int) ≤ 2 * dp + 1 := hl
      have hg : GQ q ty := hg
      obtain ⟨x', rfl⟩ : ∃ x', x = x' + 1 := ⟨x - 1, by omega⟩
      have r := cd_ok hS F 2 dp a q ty d0 d1 (by decide) a0 an (show (ty.length : Int) ≤ 2 * dp + 2 by omega) hg
      have sub := fun K' => ih 2 dp a g q ty x' 0 K' (show 6 * (n - a) + 1 ≤ (F : Int) by omega) d0 d1 (show (ty.length : Int) ≤ 2 * dp + 2 by omega) hg hR hA lq h13 hb (show 5 + (3 + 3 * (6 - dp) + 0) ≤ (x' : Int) by omega)
      generalize cdR S N F 2 dp a q = r1 at kk r sub
      simp only at kk
      apply wpX12_readAllOf
      refine (sub _ fun g1 o1 y1 n1 => bI_in ?_).2.2.1 rfl
      by_cases z : r1.1 = true
      · rw [if_pos z] at kk ⊢
        rw [w1]
        refine ⟨fun _ => ?_, fun c => absurd (show (1 : Int) ≠ 0 by decide) c⟩
        have rz := r.2 z
        have rz3 := rz.2.2 (by decide)
        have y := y1 z
        exact (ih 4 dp r1.2.1 g1 r1.2.2 ty (x' + 1) b K (show 6 * (n - r1.2.1) + 1 ≤ (F : Int) by omega) d0 d1 (show (ty.length : Int) ≤ 2 * dp + 1 by omega) rz.1 (hR.om o1) y.1 y.2.1 (by rw [y.2.2, h13]) (by omega) (show 5 + (3 + 3 * (6 - dp) + 1) ≤ ((x' + 1 : Nat) : Int) by omega) (kk.up o1 y.2.2)).2.2.2.2 rfl
      · rw [if_neg z] at kk ⊢
        rw [w0]
        exact ⟨fun c => absurd rfl c, fun _ => kk.fl z o1 (n1 z)⟩
    · subst m
      rw [if_neg (by decide), if_neg (by decide), if_neg (by decide), if_neg (by decide)] at kk
      have hx : 5 + (3 + 3 * (6 - dp) + 0) ≤ (x : Int) := hx
      have hf : 6 * (n - a) + 1 ≤ ((F + 1 : Nat) : Int) := hf
      have hl : (ty.length : Int) ≤ 2 * dp + 2 := hl
      have hg : GQ q ty := hg
      obtain ⟨x', rfl⟩ : ∃ x', x = x' + 8 := ⟨x - 8, by omega⟩
      apply wpX12_readAtom
      refine m_sign 40 31 (by decide) (by decide +kernel) (by decide) (by decide) (by decide) hS hR hA (fun z g1 o1 at1 f1 => bI_in ?_) (fun z g1 o1 at1 f1 => bI_in ?_)
      · have z : S a = 1031 := z
        rw [if_neg (by omega), if_pos z] at kk
        have e13 : g1 171 13 = dp := by rw [o1 _ _ (by omega)]; exact h13
        rw [w1, e13, wr_id (x := dp) (by omega) (by omega)]
        refine ⟨fun c => absurd c (by decide), fun _ => ⟨fun dd => ?_, fun dd => ?_⟩⟩
        · rw [if_neg (by omega)] at kk
          have an1 := at1.a1
          have hl2 : (ty.length : Int) ≤ bdM 0 (dp + 1) := by unfold bdM; simp; omega
          have r := cd_ok hS F 0 (dp + 1) (a + 1) q ty (by omega) (by omega) (by decide) (by omega) an1 hl2 hg
          have o2 : oM C g1 (upd2 g1 171 13 (dp + 1)) := fun u j h1 h2 => if_neg (fun w => h1 ⟨w.2, by omega⟩)
          have q2 : MQ9 (upd2 g1 171 13 (dp + 1)) C q := by
            have q1 := lq.rd o1
            exact ⟨⟨by rw [upd2_nj (by decide)]; exact q1.1.1, q1.1.2⟩, fun i i0 i1 => by rw [upd2_ne (by decide), upd2_ne (by decide)]; exact q1.2 i i0 i1⟩
          have at2 : AT (upd2 g1 171 13 (dp + 1)) T L n P (a + 1) := at1.v (upd2_nj (by decide))
          have f13 : upd2 g1 171 13 (dp + 1) 171 13 = dp + 1 := upd2_eq
          have hR2 := (hR.op o1).om o2
          generalize upd2 g1 171 13 (dp + 1) = g2 at *
          have sub := fun K' => ih 0 (dp + 1) (a + 1) g2 q ty (x' + 7) 0 K' (show 6 * (n - (a + 1)) + 3 ≤ (F : Int) by omega) (by omega) (by omega) hl2 hg hR2 at2 q2 f13 (by omega) (show 5 + (3 + 3 * (6 - (dp + 1)) + 2) ≤ ((x' + 7 : Nat) : Int) by omega)
          generalize cdR S N F 0 (dp + 1) (a + 1) q = r1 at kk r sub
          simp only at kk
          refine (sub _ fun g3 o3 y3 n3 => bI_in ?_).1 rfl
          by_cases v : r1.1 = true
          · rw [if_pos v] at kk ⊢
            have y := y3 v
            have rz := r.2 v
            rw [w1, y.2.2, f13, show dp + 1 - 1 = dp by omega]
            refine ⟨fun _ => ?_, fun c => absurd (show (1 : Int) ≠ 0 by decide) c⟩
            have o4 : oM C g3 (upd2 g3 171 13 dp) := fun u j h1 h2 => if_neg (fun w => h1 ⟨w.2, by omega⟩)
            have q4 : MQ9 (upd2 g3 171 13 dp) C r1.2.2 := ⟨⟨by rw [upd2_nj (by decide)]; exact y.2.1.1.1, y.2.1.1.2⟩, fun i i0 i1 => by rw [upd2_ne (by decide), upd2_ne (by decide)]; exact y.2.1.2 i i0 i1⟩
            have at4 : AT (upd2 g3 171 13 dp) T L n P r1.2.1 := y.1.v (upd2_nj (by decide))
            have f4 : upd2 g3 171 13 dp 171 13 = dp := upd2_eq
            have hR4 := (hR2.om o3).om o4
            generalize upd2 g3 171 13 dp = g4 at *
            have oo := o1.m.trans (o2.trans (o3.trans o4))
            refine m_sign 41 32 (by decide) (by decide +kernel) (by decide) (by decide) (by decide) hS hR4 at4 (fun w g5 o5 at5 f5 => bI_in ?_) (fun w g5 o5 at5 f5 => bI_in ?_)
            · rw [if_pos (show S r1.2.1 = 1032 from w)] at kk
              exact ⟨Or.inr w1, kk.yes (oo.trans o5.m) at5 (q4.rd o5) (by rw [o5 _ _ (by omega), f4, h13])⟩
            · rw [if_neg (show ¬ S r1.2.1 = 1032 from w)] at kk
              exact ⟨Or.inl w0, kk.no (oo.trans o5.m) f5⟩
          · rw [if_neg v] at kk ⊢
            rw [w0]
            exact ⟨fun c => absurd rfl c, fun _ => kk.fl v (o1.m.trans (o2.trans o3)) (n3 v)⟩
        · rw [if_pos (by omega)] at kk
          exact kk.no o1.m f1
      · have z : S a ≠ 1031 := z
        rw [w0]
        refine ⟨fun _ => ?_, fun c => absurd rfl c⟩
        have hR1 := hR.op o1
        have lq1' := lq.rd o1
        have e13 : g1 171 13 = dp := by rw [o1 _ _ (by omega)]; exact h13
        refine m_passes 2022 5 ⟨by decide, by decide⟩ (by decide +kernel) (by decide) hS hR1 at1 (fun z2 g2 o2 at2 f2 => bI_in ?_) (fun z2 g2 o2 at2 f2 => bI_in ?_)
        · have z2 : S a = 1005 := z2
          rw [if_pos z2] at kk
          have f13 : g2 171 13 = dp := by rw [o2 _ _ (by omega)]; exact e13
          rw [w1, f13, wr_id (x := dp) (by omega) (by omega)]
          refine ⟨fun c => absurd c (by decide), fun _ => ⟨fun dd => ?_, fun dd => ?_⟩⟩
          · rw [if_neg (by omega)] at kk
            have an1 := at2.a1
            have hl2 : (ty.length : Int) ≤ bdM 2 (dp + 1) := by unfold bdM; simp; omega
            have r := cd_ok hS F 2 (dp + 1) (a + 1) q ty (by omega) (by omega) (by decide) (by omega) an1 hl2 hg
            have o3 : oM C g2 (upd2 g2 171 13 (dp + 1)) := fun u j h1 h2 => if_neg (fun w => h1 ⟨w.2, by omega⟩)
            have q3 : MQ9 (upd2 g2 171 13 (dp + 1)) C q := by
              have q1 := lq1'.rd o2
              exact ⟨⟨by rw [upd2_nj (by decide)]; exact q1.1.1, q1.1.2⟩, fun i i0 i1 => by rw [upd2_ne (by decide), upd2_ne (by decide)]; exact q1.2 i i0 i1⟩
            have at3 : AT (upd2 g2 171 13 (dp + 1)) T L n P (a + 1) := at2.v (upd2_nj (by decide))
            have f3 : upd2 g2 171 13 (dp + 1) 171 13 = dp + 1 := upd2_eq
            have hR3 := (hR1.op o2).om o3
            generalize upd2 g2 171 13 (dp + 1) = g3 at *
            have sub := fun K' => ih 2 (dp + 1) (a + 1) g3 q ty (x' + 7) 0 K' (show 6 * (n - (a + 1)) + 1 ≤ (F : Int) by omega) (by omega) (by omega) hl2 hg hR3 at3 q3 f3 (by omega) (show 5 + (3 + 3 * (6 - (dp + 1)) + 0) ≤ ((x' + 7 : Nat) : Int) by omega)
            generalize cdR S N F 2 (dp + 1) (a + 1) q = r1 at kk r sub
            simp only at kk
            refine (sub _ fun g4 o4 y4 n4 => bI_in ?_).2.2.1 rfl
            have oo := o1.m.trans (o2.m.trans (o3.trans o4))
            by_cases v : r1.1 = true
            · rw [if_pos v] at kk ⊢
              have y := y4 v
              have rz := r.2 v
              have yn := y.1.a1
              rw [w1, y.2.2, f3, show dp + 1 - 1 = dp by omega]
              refine ⟨fun _ => ?_, fun c => absurd (show (1 : Int) ≠ 0 by decide) c⟩
              have o5 : oM C g4 (upd2 g4 171 13 dp) := fun u j h1 h2 => if_neg (fun w => h1 ⟨w.2, by omega⟩)
              have q5 : MQ9 (upd2 g4 171 13 dp) C r1.2.2 := ⟨⟨by rw [upd2_nj (by decide)]; exact y.2.1.1.1, y.2.1.1.2⟩, fun i i0 i1 => by rw [upd2_ne (by decide), upd2_ne (by decide)]; exact y.2.1.2 i i0 i1⟩
              have at5 : AT (upd2 g4 171 13 dp) T L n P r1.2.1 := y.1.v (upd2_nj (by decide))
              have f5 : upd2 g4 171 13 dp 171 13 = dp := upd2_eq
              generalize upd2 g4 171 13 dp = g5 at *
              refine m_em (c := 14) (x := 0) q5 (by omega) fun g6 q6 o6 => bV_in ?_
              exact kk.yes (oo.trans (o5.trans o6.m)) (at5.on o6) q6 (by rw [o6 _ _ (by omega) (by omega), f5, h13])
            · rw [if_neg v] at kk ⊢
              rw [w0]
              exact ⟨fun c => absurd rfl c, fun _ => kk.fl v oo (n4 v)⟩
          · rw [if_pos (by omega)] at kk
            exact kk.no (o1.m.trans o2.m) f2
        · have z2 : S a ≠ 1005 := z2
          rw [if_neg z2, if_neg z] at kk
          rw [w0]
          refine ⟨fun _ => ?_, fun c => absurd rfl c⟩
          have o12 := o1.trans o2
          have hR2 := hR.op o12
          have q2 := lq.rd o12
          have g13 : g2 171 13 = g 171 13 := o12 _ _ (by omega)
          refine m_tag hS hR2 at2 q2 (by omega) (fun z3 g3 o3 at3 q3 h3 => bI_in ?_) (fun z3 g3 o3 at3 => bI_in ?_)
          · rw [if_pos z3] at kk
            rw [w1]
            exact ⟨fun c => absurd c (by decide), fun _ => kk.yes (o12.m.trans o3) at3 q3 (by rw [h3, g13])⟩
          · rw [if_neg z3] at kk
            rw [w0]
            refine ⟨fun _ => ?_, fun c => absurd rfl c⟩
            have o13 := o12.trans o3
            have hR3 := hR.op o13
            have q3 := lq.rd o13
            have kk := kk.up o13.m (o13 _ _ (by omega))
            unfold cmR at kk
            have r := smR_ok hS a0 an hg (by omega)
            refine m_sumR hS hR3 at3 q3 hb fun g4 o4 y4 n4 => bI_in ?_
            generalize smR S N a q = r1 at kk r y4 n4 ⊢
            simp only at kk
            by_cases v : r1.1 = true
            · rw [if_pos v] at kk ⊢
              rw [w1]
              refine ⟨fun _ => ?_, fun c => absurd (show (1 : Int) ≠ 0 by decide) c⟩
              have y := y4 v
              have rz := r.2 v
              have hR4 := hR3.om o4
              have kk := kk.up o4 y.2.2
              have sec : ∀ (c : Int) (g5 : GG) (K2 : Ou → HP → Prop), ((c = 12 ∧ S r1.2.1 = 1033) ∨ (c = 13 ∧ S r1.2.1 ≠ 1033 ∧ S r1.2.1 = 1034)) → oRd g4 g5 → AT g5 T L n P (r1.2.1 + 1) → (∀ g6, (∃ s : QQ, MQ9 g6 C s ∧ C + s.1 ≤ 399 ∧ ∀ g7, MQ9 g7 C (adQ s c 0) → oN C g6 g7 → K (.inl (vI 1)) (stt g7)) → K2 (.inl (vI 1)) (stt g6)) → (∀ g6, K (.inl (vI 0)) (stt g6) → K2 (.inl (vI 0)) (stt g6)) → Ct Γ l (x' + 7) 0 yX12_readSum mX12_readSum [vR 171] (stt g5) K2 := by
                intro c g5 K2 hc o5 at5 k1 k0
                rw [if_pos (show S r1.2.1 = 1033 ∨ S r1.2.1 = 1034 by omega), show (if S r1.2.1 = 1033 then (12 : Int) else 13) = c by
                  by_cases w : S r1.2.1 = 1033
                  · rw [if_pos w]; omega
                  · rw [if_neg w]; omega] at kk
                have kk := kk.up o5.m (o5 _ _ (by omega))
                have an5 := at5.a1
                have s := smR_ok hS (a := r1.2.1 + 1) (by omega) an5 rz.1 (by simp only [List.length_cons]; omega)
                refine m_sumR hS (hR4.op o5) at5 (y.2.1.rd o5) (by omega) fun g6 o6 y6 n6 => ?_
                generalize smR S N (r1.2.1 + 1) r1.2.2 = s1 at kk s y6 n6 ⊢
                by_cases w : s1.1 = true
                · rw [if_pos w] at kk ⊢
                  have y := y6 w
                  have sz := s.2 w
                  exact k1 g6 ⟨s1.2.2, y.2.1, by omega, fun g7 q7 o7 => kk.yes (o6.trans o7.m) (y.1.on o7) q7 (by rw [o7 _ _ (by omega) (by omega)]; exact y.2.2)⟩
                · rw [if_neg w] at kk ⊢
                  exact k0 g6 (kk.fl w o6 (n6 w))
              refine m_sign 60 33 (by decide) (by decide +kernel) (by decide) (by decide) (by decide) hS hR4 y.1 (fun u g5 o5 at5 f5 => bI_in ?_) (fun u g5 o5 at5 f5 => bI_in ?_)
              · rw [w1]
                refine ⟨fun _ => sec 12 g5 _ (Or.inl ⟨rfl, u⟩) o5 at5 (fun g6 h6 => bI_in ?_) (fun g6 h6 => bI_in ?_), fun c => absurd (show (1 : Int) ≠ 0 by decide) c⟩
                · obtain ⟨s, s1, s2, s3⟩ := h6
                  rw [w1]
                  exact ⟨fun _ => ⟨fun c => absurd c (by decide), fun _ => m_em s1 s2 fun g7 q7 o7 => bV_in (s3 g7 q7 o7)⟩, fun c => absurd (show (1 : Int) ≠ 0 by decide) c⟩
                · rw [w0]
                  exact ⟨fun c => absurd rfl c, fun _ => h6⟩
              · rw [w0]
                refine ⟨fun c => absurd rfl c, fun _ => ?_⟩
                refine m_sign 62 34 (by decide) (by decide +kernel) (by decide) (by decide) (by decide) hS (hR4.op o5) at5 (fun u2 g6 o6 at6 f6 => bI_in ?_) (fun u2 g6 o6 at6 f6 => bI_in ?_)
                · rw [w1]
                  refine ⟨fun c => absurd c (by decide), fun _ => sec 13 g6 _ (Or.inr ⟨rfl, u, u2⟩) (o5.trans o6) at6 (fun g7 h7 => bI_in ?_) (fun g7 h7 => bI_in ?_)⟩
                  · obtain ⟨s, s1, s2, s3⟩ := h7
                    rw [w1]
                    exact ⟨fun _ => ⟨fun _ => m_em s1 s2 fun g8 q8 o8 => bV_in (s3 g8 q8 o8), fun c => absurd rfl c⟩, fun c => absurd (show (1 : Int) ≠ 0 by decide) c⟩
                  · rw [w0]
                    exact ⟨fun c => absurd rfl c, fun _ => h7⟩
                · rw [w0]
                  rw [if_neg (show ¬ (S r1.2.1 = 1033 ∨ S r1.2.1 = 1034) from fun w => w.elim u u2)] at kk
                  exact ⟨fun _ => kk.no (o5.trans o6).m f6, fun c => absurd rfl c⟩
            · rw [if_neg v] at kk ⊢
              rw [w0]
              exact ⟨fun c => absurd rfl c, fun _ => kk.fl v o4 (n4 v)⟩
    · subst m
      rw [if_neg (by decide), if_neg (by decide), if_pos rfl] at kk
      have hx : 5 + (3 + 3 * (6 - dp) + 2) ≤ (x : Int) := hx
      have hf : 6 * (n - a) + 1 ≤ ((F + 1 : Nat) : Int) := hf
      have hl : (ty.length : Int) ≤ 2 * dp + 0 := hl
      have hg : GQ q (true :: ty) := hg
      obtain ⟨x', rfl⟩ : ∃ x', x = x' + 6 := ⟨x - 6, by omega⟩
      apply wpX12_readCond_9
      refine m_passes 2045 20 ⟨by decide, by decide⟩ (by decide +kernel) (by decide) hS hR hA (fun z g1 o1 at1 f1 => bI_in ?_) (fun z g1 o1 at1 f1 => bI_in ?_)
      · rw [if_pos (show S a = 1020 from z)] at kk
        rw [w1]
        refine ⟨fun c => absurd c (by decide), fun _ => ?_⟩
        have an1 := at1.a1
        have hl2 : ((true :: ty).length : Int) ≤ bdM 1 dp := by unfold bdM; simp; omega
        have r := cd_ok hS F 1 dp (a + 1) q (true :: ty) d0 d1 (by decide) (by omega) an1 hl2 hg
        have h131 : g1 171 13 = dp := by rw [o1 _ _ (by omega)]; exact h13
        have sub := fun K' => ih 1 dp (a + 1) g1 q (true :: ty) (x' + 5) 0 K' (show 6 * (n - (a + 1)) + 2 ≤ (F : Int) by omega) d0 d1 hl2 hg (hR.op o1) at1 (lq.rd o1) h131 (by omega) (show 5 + (3 + 3 * (6 - dp) + 1) ≤ ((x' + 5 : Nat) : Int) by omega)
        generalize cdR S N F 1 dp (a + 1) q = r1 at kk r sub
        simp only at kk
        refine (sub _ fun g2 o2 y2 n2 => bI_in ?_).2.1 rfl
        have kk := kk.up o1.m (o1 _ _ (by omega))
        by_cases v : r1.1 = true
        · rw [if_pos v] at kk ⊢
          rw [w1]
          have rz := r.2 v
          have rz3 := rz.2.2 (by decide)
          have y := y2 v
          have yn := y.1.a1
          refine ⟨fun _ => ?_, fun c => absurd (show (1 : Int) ≠ 0 by decide) c⟩
          refine m_em (c := 16) (x := 0) y.2.1 (by omega) fun g3 q3 o3 => bV_in ?_
          have g9 := rz.1.add (c := 16) (x := 0) (ty' := true :: ty) rfl (by simp only [List.length_cons]; omega) (by decide) (by decide) (fun q => absurd q (by decide))
          have e3 : g3 171 13 = g1 171 13 := by rw [o3 _ _ (by omega) (by omega)]; exact y.2.2
          exact (ih 3 dp r1.2.1 g3 (adQ r1.2.2 16 0) ty (x' + 6) b K (show 6 * (n - r1.2.1) + 1 ≤ (F : Int) by omega) d0 d1 (show (ty.length : Int) ≤ 2 * dp + 0 by omega) g9 (((hR.op o1).om o2).om o3.m) (y.1.on o3) q3 (by rw [e3, h131]) (show C + (r1.2.2.1 + 1) + 3 ≤ r1.2.1 by omega) (show 5 + (3 + 3 * (6 - dp) + 2) ≤ ((x' + 6 : Nat) : Int) by omega) (kk.up (o2.trans o3.m) e3)).2.2.2.1 rfl
        · rw [if_neg v] at kk ⊢
          rw [w0]
          exact ⟨fun c => absurd rfl c, fun _ => kk.fl v o2 (n2 v)⟩
      · rw [if_neg (show ¬ S a = 1020 from z)] at kk
        rw [w0]
        exact ⟨fun _ => kk.yes o1.m at1 (lq.rd o1) (o1 _ _ (by omega)), fun c => absurd rfl c⟩
    · subst m
      rw [if_neg (by decide), if_neg (by decide), if_neg (by decide), if_pos rfl] at kk
      have hx : 5 + (3 + 3 * (6 - dp) + 1) ≤ (x : Int) := hx
      have hf : 6 * (n - a) + 1 ≤ ((F + 1 : Nat) : Int) := hf
      have hl : (ty.length : Int) ≤ 2 * dp + 1 := hl
      have hg : GQ q (true :: ty) := hg
      obtain ⟨x', rfl⟩ : ∃ x', x = x' + 6 := ⟨x - 6, by omega⟩
      apply wpX12_readAllOf_9
      refine m_passes 2044 21 ⟨by decide, by decide⟩ (by decide +kernel) (by decide) hS hR hA (fun z g1 o1 at1 f1 => bI_in ?_) (fun z g1 o1 at1 f1 => bI_in ?_)
      · rw [if_pos (show S a = 1021 from z)] at kk
        rw [w1]
        refine ⟨fun c => absurd c (by decide), fun _ => ?_⟩
        have an1 := at1.a1
        have hl2 : ((true :: ty).length : Int) ≤ bdM 2 dp := by unfold bdM; simp; omega
        have r := cd_ok hS F 2 dp (a + 1) q (true :: ty) d0 d1 (by decide) (by omega) an1 hl2 hg
        have h131 : g1 171 13 = dp := by rw [o1 _ _ (by omega)]; exact h13
        have sub := fun K' => ih 2 dp (a + 1) g1 q (true :: ty) (x' + 5) 0 K' (show 6 * (n - (a + 1)) + 1 ≤ (F : Int) by omega) d0 d1 hl2 hg (hR.op o1) at1 (lq.rd o1) h131 (by omega) (show 5 + (3 + 3 * (6 - dp) + 0) ≤ ((x' + 5 : Nat) : Int) by omega)
        generalize cdR S N F 2 dp (a + 1) q = r1 at kk r sub
        simp only at kk
        refine (sub _ fun g2 o2 y2 n2 => bI_in ?_).2.2.1 rfl
        have kk := kk.up o1.m (o1 _ _ (by omega))
        by_cases v : r1.1 = true
        · rw [if_pos v] at kk ⊢
          rw [w1]
          have rz := r.2 v
          have rz3 := rz.2.2 (by decide)
          have y := y2 v
          have yn := y.1.a1
          refine ⟨fun _ => ?_, fun c => absurd (show (1 : Int) ≠ 0 by decide) c⟩
          refine m_em (c := 15) (x := 0) y.2.1 (by omega) fun g3 q3 o3 => bV_in ?_
          have g9 := rz.1.add (c := 15) (x := 0) (ty' := true :: ty) rfl (by simp only [List.length_cons]; omega) (by decide) (by decide) (fun q => absurd q (by decide))
          have e3 : g3 171 13 = g1 171 13 := by rw [o3 _ _ (by omega) (by omega)]; exact y.2.2
          exact (ih 4 dp r1.2.1 g3 (adQ r1.2.2 15 0) ty (x' + 6) b K (show 6 * (n - r1.2.1) + 1 ≤ (F : Int) by omega) d0 d1 (show (ty.length : Int) ≤ 2 * dp + 1 by omega) g9 (((hR.op o1).om o2).om o3.m) (y.1.on o3) q3 (by rw [e3, h131]) (show C + (r1.2.2.1 + 1) + 3 ≤ r1.2.1 by omega) (show 5 + (3 + 3 * (6 - dp) + 1) ≤ ((x' + 6 : Nat) : Int) by omega) (kk.up (o2.trans o3.m) e3)).2.2.2.2 rfl
        · rw [if_neg v] at kk ⊢
          rw [w0]
          exact ⟨fun c => absurd rfl c, fun _ => kk.fl v o2 (n2 v)⟩
      · rw [if_neg (show ¬ S a = 1021 from z)] at kk
        rw [w0]
        exact ⟨fun _ => kk.yes o1.m at1 (lq.rd o1) (o1 _ _ (by omega)), fun c => absurd rfl c⟩
end MD9
