/-! A TEXT OF THE LAW: the class's reader, all of it -/
section KX
variable {Γ : Cfg} {l : Launch} {d b : Nat} {g : GG} {K : Ou → HP → Prop} {T S P N : Int → Int} {L n p e x y a : Int}
theorem LZ.to {g : GG} {W : VV} {c k a m : Int} (h : LZ g W c k a) (hm : a ≤ m) : LZ g W c k m := ⟨h.1, ⟨h.2.1.1, h.2.1.2.1, h.2.1.2.2.1, by have := h.2.1.2.2.2.1; omega, by have := h.2.1.2.2.2.2; omega⟩, h.2.2⟩
theorem LZ.ot {g g' : GG} {W : VV} {c k a : Int} (h : LZ g W c k a) (o : oT g g') : LZ g' W c k a := ⟨h.1, ⟨by rw [o _ _ (by omega)]; exact h.2.1.1, by rw [o _ _ (by omega)]; exact h.2.1.2.1, h.2.1.2.2⟩, fun i hi => by
  have hh := h.2.2 i hi
  refine ⟨⟨?_, fun z => ?_, fun k hk => ?_⟩, hh.2⟩
  · rw [o _ _ (by omega)]; exact hh.1.1
  · rw [o _ _ (by omega)]; exact hh.1.2.1 z
  · rw [o _ _ (by omega)]; exact hh.1.2.2 k hk⟩
theorem k_lawText (hS : TS T L n S P N) {F : Nat} (hF : 2410 ≤ F) (cq : CQ g n S P N) (cp : CP g S P N 0) (kk : ∀ g', (∀ x j, ¬ (x = 4 ∧ 3 ≤ j ∧ j ≤ 6) → ¬ (x = 38 ∧ (j = 2 ∨ j = 3 ∨ j = 4)) → x ≠ 39 → g' x j = g x j) → g' 38 4 = 1 → CP g' S P N (laR S N F).2.1 → ((laR S N F).1 = true → ∃ c, LZ g' (laR S N F).2.2.1 c (laR S N F).2.2.2 400) → K (.inl (vI (if (laR S N F).1 = true then 1 else 0))) (stt g')) : Ct Γ l (d + 25) b yX4_readText mX4_readText [vR 38, vR 4] (stt g) K := by
  have w0 : wr 0 = 0 := by decide +kernel
  have w1 : wr 1 = 1 := by decide +kernel
  have hn := hS.1.1
  apply wpX4_readText LA38
  have u : ∀ x j, ¬ (x = 38 ∧ (j = 2 ∨ j = 3 ∨ j = 4)) → (upd2 (upd2 (upd2 g 38 2 0) 38 3 0) 38 4 1) x j = g x j := fun x j h => by
    show (if j = 4 ∧ x = 38 then (1 : Int) else if j = 3 ∧ x = 38 then 0 else if j = 2 ∧ x = 38 then 0 else g x j) = g x j
    rw [if_neg (fun z => h ⟨z.2, by omega⟩), if_neg (fun z => h ⟨z.2, by omega⟩), if_neg (fun z => h ⟨z.2, by omega⟩)]
  have u4 : (upd2 (upd2 (upd2 g 38 2 0) 38 3 0) 38 4 1) 38 4 = 1 := upd2_eq
  have u3 : (upd2 (upd2 (upd2 g 38 2 0) 38 3 0) 38 4 1) 38 3 = 0 := by rw [upd2_nj (by decide), upd2_eq]
  have u2 : (upd2 (upd2 (upd2 g 38 2 0) 38 3 0) 38 4 1) 38 2 = 0 := by rw [upd2_nj (by decide), upd2_nj (by decide), upd2_eq]
  generalize upd2 (upd2 (upd2 g 38 2 0) 38 3 0) 38 4 1 = g0 at u u4 u3 u2 ⊢
  have cp0 : CP g0 S P N 0 := ⟨by rw [u _ _ (by omega)]; exact cp.1, by rw [u _ _ (by omega)]; exact cp.2.1, by rw [u _ _ (by omega)]; exact cp.2.2.1, by rw [u _ _ (by omega)]; exact cp.2.2.2⟩
  have cq0 : CQ g0 n S P N := fun k k0 k1 => by rw [u _ _ (by omega), u _ _ (by omega), u _ _ (by omega)]; exact cq k k0 k1
  have lz0 : LZ g0 (fun _ => 0) 0 0 0 := ⟨⟨⟨by decide, by decide, by decide⟩, fun i hi => absurd hi (by omega)⟩, ⟨u3, u2, Int.le_refl 0, Int.le_refl 0, Int.le_refl 0⟩, fun i hi => absurd hi (by omega)⟩
  have kk : KT g0 S P N (laR S N F) K := fun g' o p h => kk g' (fun x j a1 a2 a3 => by rw [o x j a1 (by omega) a3, u x j a2]) (by rw [o _ _ (by omega) (by omega) (by decide), u4]) p h
  rw [cp0.2.1]
  unfold laR at kk
  refine ⟨hS.sg (by decide) hn.1, fun c => ?_, fun c => ?_⟩
  · rw [if_neg c] at kk
    have key : ∀ (f : Nat) (W : VV) (c k a : Int) (g : GG) (v1 v2 : AV), (f : Int) + k = 12 → a ≤ n → 0 ≤ a → CQ g n S P N → CP g S P N a → LZ g W c k a → KT g S P N (ltR S N F f W c k a) K → AW Γ l mX4_readText (d + 25) b 27 [vR 38, vR 4, v1, v2] [] (stt g) K := by
      intro f
      induction f with
      | zero =>
        intro W c k a g v1 v2 hf an a0 cq cp lz kk
        refine AW.weak (L' := [vR 38, vR 4, vU, vU]) ?_ (by simp [leP])
        apply wpX4_readText_27 LA38
        rw [lz.2.1.1, wr_id (x := k) (by omega) (by omega)]
        exact ⟨fun _ => kk g oX.refl cp (fun z => absurd z Bool.false_ne_true), fun z => absurd (show 12 ≤ k by omega) z⟩
      | succ f ih =>
        intro W c k a g v1 v2 hf an a0 cq cp lz kk
        obtain ⟨e3, e2, B0, B1, ca⟩ := lz.2.1
        have hk0 := lz.1.1
        have r := ll_ok hS F a0 an
        refine AW.weak (L' := [vR 38, vR 4, vU, vU]) ?_ (by simp [leP])
        apply wpX4_readText_27 LA38
        rw [e3, wr_id (x := k) (by omega) (by omega)]
        refine ⟨fun z => absurd z (by omega), fun _ => ?_⟩
        have sg := hS.sg a0 an
        unfold ltR at kk
        rw [cp.2.1]
        have bad : ∀ (m : Int) (z : Int × Int × QQ) (g' : GG), llR S N F a = (false, m, z) → oX g g' → CP g' S P N m → K (.inl (vI 0)) (stt g') := fun m z g' e o p => by
          rw [e] at kk
          simp only at kk
          rw [if_neg Bool.false_ne_true] at kk
          exact kk g' o p (fun z => absurd z Bool.false_ne_true)
        -- behind a line
        have tail : ∀ (m : Int) (z : Int × Int × QQ) (g7 : GG) (v1 v2 : AV), llR S N F a = (true, m, z) → oX g g7 → CP g7 S P N m → g7 38 3 = k → LZ (upd2 g7 38 3 (k + 1)) (adL W k c z) (c + z.2.2.1) (k + 1) m →
            (SG ((upd2 g7 38 3 ((g7 38 3) + 1)) 4 4)) ∧ ((¬ (upd2 g7 38 3 ((g7 38 3) + 1)) 4 4 = 1037 → (SG ((upd2 g7 38 3 ((g7 38 3) + 1)) 4 4)) ∧ (((upd2 g7 38 3 ((g7 38 3) + 1)) 4 4 = 1030 → Ct Γ l (d + 24) 0 yX10_step mX10_step [vR 4] (stt (upd2 g7 38 3 ((g7 38 3) + 1))) (bV (fun g8 => AW Γ l mX4_readText (d + 25) b 27 [vR 38, vR 4, v1, v2] [] (stt g8) K) K)) ∧ (¬ (upd2 g7 38 3 ((g7 38 3) + 1)) 4 4 = 1030 → K (.inl (vI 0)) (stt (upd2 g7 38 3 ((g7 38 3) + 1)))))) ∧ ((upd2 g7 38 3 ((g7 38 3) + 1)) 4 4 = 1037 → K (.inl (vI 1)) (stt (upd2 g7 38 3 ((g7 38 3) + 1))))) := by
          intro m z g7 v1 v2 e o p h3 lz8
          rw [e] at kk r
          simp only at kk r
          rw [if_pos trivial] at kk
          rw [h3]
          have p8 : CP (upd2 g7 38 3 (k + 1)) S P N m := p.h (by decide)
          have o8 : oX g (upd2 g7 38 3 (k + 1)) := o.trans fun x j a1 a2 a3 => if_neg (fun z => a2 ⟨z.2, Or.inr z.1⟩)
          generalize upd2 g7 38 3 (k + 1) = g8 at p8 o8 lz8 ⊢
          have q8 := cq.ox o8
          have m0 : 0 ≤ m := by omega
          rw [p8.2.1]
          refine ⟨hS.sg m0 r.1.2, fun w => ⟨hS.sg m0 r.1.2, fun w2 => ?_, fun w2 => ?_⟩, fun w => ?_⟩
          · rw [if_neg w, if_pos w2] at kk
            have ml := hS.lt r.1.2 w
            refine k_st hS q8 p8 m0 ml fun g9 p9 q9 o9 => bV_in ?_
            exact ih _ _ (k + 1) (m + 1) g9 v1 v2 (by omega) (by omega) (by omega) q9 p9 ((lz8.ot o9).to (by omega)) fun g' o' => kk g' (o8.trans (o9.x.trans o'))
          · rw [if_neg w, if_neg w2] at kk
            exact kk g8 o8 p8 (fun z => absurd z Bool.false_ne_true)
          · rw [if_pos w] at kk
            exact kk g8 o8 p8 (fun _ => ⟨_, lz8.to (by omega)⟩)
        by_cases c1 : 1017 ≤ S a ∧ S a ≤ 1019
        · have al : a < n := hS.lt an (by omega)
          have go : ∀ v : Int, v = 8 + (S a - 1017) → (bI (fun v1 g1 => (¬ wr v1 = -1 → Ct Γ l (d + 24) 0 yX10_step mX10_step [vR 4] (stt g1) (bV (fun g2 => Ct Γ l (d + 24) 0 yX10_tells mX10_tells [vR 4, vI 0, vI 40] (stt g2) (bI (fun v2 g3 => (¬ wr v2 = 0 → Ct Γ l (d + 24) 0 yX10_step mX10_step [vR 4] (stt g3) (bV (fun g4 => (SG (g4 4 4)) ∧ ((g4 4 4 = 1004 → Ct Γ l (d + 24) 0 yX10_step mX10_step [vR 4] (stt g4) (bV (fun g5 => Ct Γ l (d + 24) 0 yX4_readAny mX4_readAny [vR 38, vR 4, vI 0] (stt g5) (bI (fun v3 g6 => (¬ wr v3 = 0 → Ct Γ l (d + 24) 0 yX4_emit mX4_emit [vR 38, vI v1, vI (g3 4 6)] (stt g6) (bV (fun g7 => (SG ((upd2 g7 38 3 ((g7 38 3) + 1)) 4 4)) ∧ ((¬ (upd2 g7 38 3 ((g7 38 3) + 1)) 4 4 = 1037 → (SG ((upd2 g7 38 3 ((g7 38 3) + 1)) 4 4)) ∧ (((upd2 g7 38 3 ((g7 38 3) + 1)) 4 4 = 1030 → Ct Γ l (d + 24) 0 yX10_step mX10_step [vR 4] (stt (upd2 g7 38 3 ((g7 38 3) + 1))) (bV (fun g8 => AW Γ l mX4_readText (d + 25) b 27 [vR 38, vR 4, vI v1, vI (g3 4 6)] [] (stt g8) K) K)) ∧ (¬ (upd2 g7 38 3 ((g7 38 3) + 1)) 4 4 = 1030 → K (.inl (vI 0)) (stt (upd2 g7 38 3 ((g7 38 3) + 1)))))) ∧ ((upd2 g7 38 3 ((g7 38 3) + 1)) 4 4 = 1037 → K (.inl (vI 1)) (stt (upd2 g7 38 3 ((g7 38 3) + 1)))))) K)) ∧ (¬ (¬ wr v3 = 0) → K (.inl (vI 0)) (stt g6))) K)) K)) ∧ (¬ g4 4 4 = 1004 → Ct Γ l (d + 24) 0 yX4_emit mX4_emit [vR 38, vI 0, vI 1] (stt g4) (bV (fun g9 => Ct Γ l (d + 24) 0 yX4_emit mX4_emit [vR 38, vI v1, vI (g3 4 6)] (stt g9) (bV (fun g10 => (SG ((upd2 g10 38 3 ((g10 38 3) + 1)) 4 4)) ∧ ((¬ (upd2 g10 38 3 ((g10 38 3) + 1)) 4 4 = 1037 → (SG ((upd2 g10 38 3 ((g10 38 3) + 1)) 4 4)) ∧ (((upd2 g10 38 3 ((g10 38 3) + 1)) 4 4 = 1030 → Ct Γ l (d + 24) 0 yX10_step mX10_step [vR 4] (stt (upd2 g10 38 3 ((g10 38 3) + 1))) (bV (fun g11 => AW Γ l mX4_readText (d + 25) b 27 [vR 38, vR 4, vI v1, vI (g3 4 6)] [] (stt g11) K) K)) ∧ (¬ (upd2 g10 38 3 ((g10 38 3) + 1)) 4 4 = 1030 → K (.inl (vI 0)) (stt (upd2 g10 38 3 ((g10 38 3) + 1)))))) ∧ ((upd2 g10 38 3 ((g10 38 3) + 1)) 4 4 = 1037 → K (.inl (vI 1)) (stt (upd2 g10 38 3 ((g10 38 3) + 1)))))) K)) K)))) K)) ∧ (¬ (¬ wr v2 = 0) → K (.inl (vI 0)) (stt g3))) K)) K)) ∧ (¬ (¬ wr v1 = -1) → K (.inl (vI 0)) (stt g1))) K) (.inl (vI v)) (stt g) := by
            intro v hv
            refine bI_in ?_
            rw [wr_id (x := v) (by omega) (by omega)]
            refine ⟨fun _ => ?_, fun z => absurd (by omega) z⟩
            refine k_st hS cq cp a0 al fun g2 p2 q2 o2 => bV_in ?_
            refine k_tells p2 (hS.sg (by omega) (by omega)) (hS.n9 (by omega) (by omega)) (by decide) (by decide) (by decide) (fun y => bI_in ?_) (fun y => bI_in ?_)
            · rw [w1, p2.2.2.2]
              refine ⟨fun _ => ?_, fun z => absurd (show (1 : Int) ≠ 0 by decide) z⟩
              have y : isN S N (a + 1) 0 40 := y
              have al1 : a + 1 < n := hS.lt (by omega) (by have := y.1; omega)
              refine k_st hS q2 p2 (by omega) al1 fun g4 p4 q4 o4 => bV_in ?_
              rw [show a + 1 + 1 = a + 2 by omega] at p4
              rw [p4.2.1]
              have o24 := o2.x.trans o4.x
              have lz4 := (lz.ot o2).ot o4
              obtain ⟨f3, f2, _, _, _⟩ := lz4.2.1
              refine ⟨hS.sg (by omega) (by omega), fun c3 => ?_, fun c3 => ?_⟩
              · have al2 : a + 2 < n := hS.lt (by omega) (by omega)
                refine k_st hS q4 p4 (by omega) al2 fun g5 p5 q5 o5 => bV_in ?_
                rw [show a + 2 + 1 = a + 3 by omega] at p5
                have lz5 := lz4.ot o5
                obtain ⟨i3, i2, _, _, _⟩ := lz5.2.1
                have ell : llR S N F a = ((cdR S N F 0 0 (a + 3) qq0).1, (cdR S N F 0 0 (a + 3) qq0).2.1, S a - 1017, N (a + 1), (cdR S N F 0 0 (a + 3) qq0).2.2) := by
                  unfold llR
                  rw [if_pos c1, if_pos y, if_pos c3]
                have gq0 : GQ qq0 [] := ⟨Int.le_refl 0, rfl, fun k hk t kt => by
                  have : k = 0 := by have hk : (k : Int) ≤ 0 := hk; omega
                  subst this
                  cases kt
                  decide, fun i i0 i1 => absurd i1 (by show ¬ i < 0; omega)⟩
                have hcd := cd_ok hS F 0 0 (a + 3) qq0 [] (by decide) (by decide) (by decide) (by omega) (by omega) (show (0 : Int) ≤ 2 * 0 + 0 by decide) gq0
                have hlq : LQ g5 (psL W k.toNat) qq0 := ⟨⟨by rw [i2]; show psL W k.toNat = psL W k.toNat + 0; omega, B0, Int.le_refl 0⟩, fun i i0 i1 => absurd i1 (by show ¬ i < 0; omega)⟩
                have sub := fun K' => (k_cond (Γ := Γ) (l := l) (B := psL W k.toNat) hS F 0 0 (a + 3) g5 qq0 [] 0 (d + 24) 0 K' (show 6 * (n - (a + 3)) + 3 ≤ (F : Int) by omega) (by decide) (by decide) (by omega) (show (0 : Int) ≤ 2 * 0 + 0 by decide) gq0 q5 p5 hlq (by show psL W k.toNat + 0 + 3 ≤ a + 3; omega) (by decide) (by omega) (show 3 + 3 * (6 - 0) + 2 ≤ ((d + 24 : Nat) : Int) by omega))
                generalize cdR S N F 0 0 (a + 3) qq0 = r1 at ell hcd sub
                refine (sub _ fun g6 o6 p6 h6 => bI_in ?_).1 rfl
                have o26 := (o24.trans o5.x).trans o6.x
                by_cases z : r1.1 = true
                · rw [if_pos z, w1]
                  rw [z] at ell
                  refine ⟨fun _ => ?_, fun w => absurd (show (1 : Int) ≠ 0 by decide) w⟩
                  have lq6 := h6 z
                  have hz := hcd.2 z
                  have e00 : qq0.1 = 0 := rfl
                  rw [e00] at hz
                  have hqn : r1.2.2.1 ≠ 0 := fun w => by
                    have := hz.1.2.1
                    rw [w] at this
                    exact absurd this (by show ¬ (some [] : Option (List Bool)) = some [true]; intro h; cases h)
                  have hq1 : 0 ≤ r1.2.2.1 := hz.1.1
                  refine k_emV (s := psL W k.toNat + r1.2.2.1) lq6.1.1 (by omega) (by omega) fun g7 s2 s39 o7 => bV_in ?_
                  refine tail r1.2.1 (S a - 1017, N (a + 1), r1.2.2) g7 _ _ ell (o26.trans fun x j a1 a2 a3 => o7 x j (by omega) (by omega)) ?_ (by rw [o7 _ _ (by omega) (by omega), o6 _ _ (by omega) (by omega) (by omega)]; exact i3) ?_
                  · exact ⟨by rw [o7 _ _ (by omega) (by omega)]; exact p6.1, by rw [o7 _ _ (by omega) (by omega)]; exact p6.2.1, by rw [o7 _ _ (by omega) (by omega)]; exact p6.2.2.1, by rw [o7 _ _ (by omega) (by omega)]; exact p6.2.2.2⟩
                  · refine lz5.line (x := (S a - 1017, N (a + 1), r1.2.2)) (by omega) ⟨by show 0 ≤ S a - 1017; omega, by show S a - 1017 ≤ 2; omega⟩ y.2 (Or.inr hz.1) hq1 ?_ (by omega) (fun j j0 j1 => ?_) upd2_eq ?_ ?_ (fun w => absurd w hqn) (fun i i0 i1 => ?_)
                    · show a + (if r1.2.2.1 = 0 then 2 else r1.2.2.1 + 3) ≤ r1.2.1
                      rw [if_neg hqn]; omega
                    · rw [upd2_ne (by decide), o7 _ _ (by omega) (by omega), o6 _ _ (by omega) (by omega) (by omega)]
                    · show upd2 g7 38 3 (k + 1) 38 2 = psL W k.toNat + (if r1.2.2.1 = 0 then 2 else r1.2.2.1 + 1)
                      rw [if_neg hqn, upd2_nj (by decide), s2]; omega
                    · show upd2 g7 38 3 (k + 1) 39 (psL W k.toNat + (if r1.2.2.1 = 0 then 2 else r1.2.2.1 + 1) - 1) = (8 + (S a - 1017)) * 1000 + N (a + 1)
                      rw [if_neg hqn, upd2_ne (by decide), show psL W k.toNat + (r1.2.2.1 + 1) - 1 = psL W k.toNat + r1.2.2.1 by omega, s39, hv]
                    · have i1 : i < r1.2.2.1 := i1
                      rw [upd2_ne (by decide), o7 _ _ (by omega) (by omega)]
                      exact lq6.2 i i0 i1
                · rw [if_neg z, w0]
                  refine ⟨fun w => absurd rfl w, fun _ => bad r1.2.1 (S a - 1017, N (a + 1), r1.2.2) g6 ?_ o26 p6⟩
                  rw [ell, Bool.eq_false_iff.mpr z]
              · have ell : llR S N F a = (true, a + 2, S a - 1017, N (a + 1), qq0) := by
                  unfold llR
                  rw [if_pos c1, if_pos y, if_neg c3]
                refine k_emV (s := psL W k.toNat) f2 B0 (by omega) fun g9 s2 s39 o9 => bV_in ?_
                refine k_emV (s := psL W k.toNat + 1) s2 (by omega) (by omega) fun g10 t2 t39 o10 => bV_in ?_
                have oo : ∀ x j, ¬ (x = 38 ∧ j = 2) → ¬ (x = 39 ∧ (j = psL W k.toNat ∨ j = psL W k.toNat + 1)) → g10 x j = g4 x j := fun x j a1 a2 => by rw [o10 x j a1 (by omega), o9 x j a1 (by omega)]
                refine tail (a + 2) (S a - 1017, N (a + 1), qq0) g10 _ _ ell (o24.trans fun x j a1 a2 a3 => oo x j (by omega) (by omega)) ?_ (by rw [oo _ _ (by omega) (by omega)]; exact f3) ?_
                · exact ⟨by rw [oo _ _ (by omega) (by omega)]; exact p4.1, by rw [oo _ _ (by omega) (by omega)]; exact p4.2.1, by rw [oo _ _ (by omega) (by omega)]; exact p4.2.2.1, by rw [oo _ _ (by omega) (by omega)]; exact p4.2.2.2⟩
                · refine lz4.line (x := (S a - 1017, N (a + 1), qq0)) (by omega) ⟨by show 0 ≤ S a - 1017; omega, by show S a - 1017 ≤ 2; omega⟩ y.2 (Or.inl rfl) (Int.le_refl 0) ?_ (by omega) (fun j j0 j1 => ?_) upd2_eq ?_ ?_ (fun _ => ?_) (fun i i0 i1 => absurd i1 (by show ¬ i < 0; omega))
                  · show a + (if (0 : Int) = 0 then 2 else 0 + 3) ≤ a + 2
                    rw [if_pos rfl]; omega
                  · rw [upd2_ne (by decide), oo _ _ (by omega) (by omega)]
                  · show upd2 g10 38 3 (k + 1) 38 2 = psL W k.toNat + (if (0 : Int) = 0 then 2 else 0 + 1)
                    rw [if_pos rfl, upd2_nj (by decide), t2]; omega
                  · show upd2 g10 38 3 (k + 1) 39 (psL W k.toNat + (if (0 : Int) = 0 then 2 else 0 + 1) - 1) = (8 + (S a - 1017)) * 1000 + N (a + 1)
                    rw [if_pos rfl, upd2_ne (by decide), show psL W k.toNat + 2 - 1 = psL W k.toNat + 1 by omega, t39, hv]
                  · rw [upd2_ne (by decide), o10 _ _ (by omega) (by omega), s39]; decide
            · rw [w0]
              refine ⟨fun w => absurd rfl w, fun _ => bad (a + 1) (0, 0, qq0) g2 ?_ o2.x p2⟩
              unfold llR
              rw [if_pos c1, if_neg (show ¬ isN S N (a + 1) 0 40 from y)]
          apply wpX4_lineStep sg
          refine ⟨fun z1 => ⟨fun z2 => ⟨fun z3 => by omega, fun z3 => go 10 (by omega)⟩, fun z2 => go 9 (by omega)⟩, fun z1 => go 8 (by omega)⟩
        · apply wpX4_lineStep sg
          refine ⟨fun z1 => ⟨fun z2 => ⟨fun z3 => bI_in ?_, fun z3 => by omega⟩, fun z2 => by omega⟩, fun z1 => by omega⟩
          rw [show wr (-1) = -1 by decide +kernel]
          refine ⟨fun w => absurd rfl w, fun _ => bad a (0, 0, qq0) g ?_ oX.refl cp⟩
          unfold llR
          rw [if_neg c1]
    refine AW.weak (L' := [vR 38, vR 4, vU, vU]) (key 12 (fun _ => 0) 0 0 0 g0 vU vU (by decide) hn.1 (by decide) cq0 cp0 lz0 kk) (by simp [leP])
  · rw [if_pos c] at kk
    exact kk g0 oX.refl cp0 (fun _ => ⟨0, lz0.to (by decide)⟩)
end KX
