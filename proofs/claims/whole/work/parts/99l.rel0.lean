/-! THE BEGINNING: class and reference are tied, and the world is the one of the walks -/
def q0 : List (Int × Int × Int) := qX12 (qX11 [])
def r0 : List (Int × Int × Int) := rX12 (rX11 [])
theorem lkR_z {t j : Int} : ∀ {q : List (Int × Int × Int)}, (∀ e ∈ q, e.1 = t → e.2.1 = j → e.2.2 = 0) → lkR q t j = 0
  | [], _ => rfl
  | e :: r, h => by
    show (if j = e.2.1 ∧ t = e.1 then e.2.2 else lkR r t j) = 0
    by_cases z : j = e.2.1 ∧ t = e.1
    · rw [if_pos z]
      exact h e List.mem_cons_self z.2.symm z.1.symm
    · rw [if_neg z]
      exact lkR_z fun x hx => h x (List.mem_cons_of_mem _ hx)
theorem q0_172 : q0.all (fun e => decide (e.1 = 172 → e.2.1 = 3 ∨ e.2.1 = 7)) = true := by decide +kernel
theorem q0_no : q0.all (fun e => decide (¬ (9 ≤ e.1 ∧ e.1 ≤ 16) ∧ e.1 ≠ 3 ∧ e.1 ≠ 177 ∧ e.1 ≠ 36)) = true := by decide +kernel
theorem g0_172 {j : Int} (h3 : j ≠ 3) (h7 : j ≠ 7) : lkR q0 172 j = 0 := lkR_z fun e he h1 h2 => by
  have := of_decide_eq_true (List.all_eq_true.mp q0_172 e he)
  have := this h1
  omega
theorem g0_row {t j : Int} (h : (9 ≤ t ∧ t ≤ 16) ∨ t = 3 ∨ t = 177 ∨ t = 36) : lkR q0 t j = 0 := lkR_z fun e he h1 h2 => by
  have := of_decide_eq_true (List.all_eq_true.mp q0_no e he)
  omega
theorem rel0 : Rel9 (lkR q0) := by
  have v : ∀ j : Int, j ≠ 3 → j ≠ 7 → lkR q0 172 j = 0 := fun j h3 h7 => g0_172 h3 h7
  have v0 : lkR q0 172 0 = 0 := v _ (by decide) (by decide)
  have v1 : lkR q0 172 1 = 0 := v _ (by decide) (by decide)
  have v2 : lkR q0 172 2 = 0 := v _ (by decide) (by decide)
  have v3 : lkR q0 172 3 = 20 := by decide +kernel
  have v4 : lkR q0 172 4 = 0 := v _ (by decide) (by decide)
  have v5 : lkR q0 172 5 = 0 := v _ (by decide) (by decide)
  have v6 : lkR q0 172 6 = 0 := v _ (by decide) (by decide)
  have v7 : lkR q0 172 7 = 1 := by decide +kernel
  have v486 : lkR q0 172 486 = 0 := v _ (by decide) (by decide)
  have c8 : lkR q0 8 8 = 0 ∧ lkR q0 8 9 = 0 ∧ lkR q0 8 10 = 20 ∧ lkR q0 8 11 = 0 ∧ lkR q0 8 12 = 0 ∧ lkR q0 8 13 = 1 ∧ lkR q0 8 14 = 0 := by decide +kernel
  have c35 : lkR q0 35 2 = 0 ∧ lkR q0 35 3 = 0 ∧ lkR q0 35 4 = 0 := by decide +kernel
  have c1 : lkR q0 1 14 = 0 ∧ lkR q0 1 15 = 0 ∧ lkR q0 1 16 = 0 ∧ lkR q0 1 17 = -1 := by decide +kernel
  have c171 : lkR q0 171 6 = 0 ∧ lkR q0 171 7 = 0 ∧ lkR q0 171 9 = 0 ∧ lkR q0 171 14 = -1 := by decide +kernel
  have c2 : lkR q0 2 1 = 0 := by decide +kernel
  generalize hg : lkR q0 = g at v v0 v1 v2 v3 v4 v5 v6 v7 v486 c8 c35 c1 c171 c2 ⊢
  have gr : ∀ t j : Int, (9 ≤ t ∧ t ≤ 16) ∨ t = 3 ∨ t = 177 ∨ t = 36 → g t j = 0 := fun t j h => by rw [← hg]; exact g0_row h
  have hH : HRel g 8 (g 172) := by
    refine ⟨HI.lit (by decide +kernel), ⟨by rw [c8.1, v0], by rw [c8.2.1, v1], by rw [c8.2.2.1, v3], by rw [c8.2.2.2.1, v4], by rw [c8.2.2.2.2.1, v5], by rw [c8.2.2.2.2.2.1, v7], by rw [c8.2.2.2.2.2.2, v6]⟩, fun d d0 d1 => ?_, fun c p a0 a1 p0 p1 => ?_, fun p k p0 p1 k0 k1 => ?_, fun i w i0 i1 => ?_⟩
    · rw [gr _ _ (by omega), v _ (by omega) (by omega)]
    · rw [gr _ _ (by omega), v _ (by omega) (by omega)]
    · rw [gr _ _ (by omega)]
      unfold zK zN
      rw [v _ (by omega) (by omega), v _ (by omega) (by omega)]
      rfl
    · rw [v6] at i1
      omega
  have hWF : WF (g 172) := by
    refine ⟨⟨by omega, by omega, by omega, by omega, by omega, by omega⟩, fun d d0 d1 => by rw [v _ (by omega) (by omega)]; omega, fun p p0 p1 => ?_⟩
    have zl : zL (g 172) p = 0 := by unfold zL; exact v _ (by omega) (by omega)
    refine ⟨⟨by omega, ?_, ?_, ?_, ?_, fun hp => absurd hp (by omega)⟩, fun k k0 k1 => ?_, fun k hk => ?_, ?_⟩
    · unfold zB; rw [v _ (by omega) (by omega)]; omega
    · unfold zG; rw [v _ (by omega) (by omega)]; omega
    · unfold zS; rw [v _ (by omega) (by omega)]; omega
    · rw [zl]; unfold zC; rw [v _ (by omega) (by omega)]; omega
    · unfold zK zN
      rw [v _ (by omega) (by omega), v _ (by omega) (by omega)]
      omega
    · have : k = 0 := by omega
      subst this
      exact ⟨by show (0 : Int) ≤ 0; decide, by show (0 : Int) ≤ 3; decide⟩
    · rw [zl]
      rfl
  have hL : LRel g 35 (g 172) := by
    refine ⟨LA.lit (by decide +kernel), ⟨by rw [c35.2.1, v486], by rw [c35.2.2, v2], ?_, ?_⟩, fun n hn => absurd hn (by omega)⟩
    · rw [c35.1, v486]
      rfl
    · rw [v486]
      show (0 : Int) ≤ 400
      decide
  have hO : okLaw (g 172) := ⟨by omega, Or.inl v2, fun _ => v486, fun n n0 n1 => absurd n1 (by omega)⟩
  have hZ : ZQ (g 172) := by
    refine ⟨fun p p0 p1 w w0 w1 => v _ (by omega) (by omega), fun p p0 p1 _ => ?_⟩
    unfold zC
    exact v _ (by omega) (by omega)
  refine ⟨⟨⟨hH, hWF, hL, hO⟩, hZ⟩, ⟨⟨by omega, by omega, by omega⟩, ⟨by omega, by omega⟩, fun k k0 k1 => absurd k1 (by omega)⟩, ⟨by omega, Or.inl (by omega), fun h => absurd h (by omega)⟩, ⟨⟨by omega, by omega, by omega⟩, fun i i0 i1 => ?_⟩, by omega⟩
  rw [gr 3 i (by omega), gr 177 i (by omega)]
  exact ⟨⟨by decide, by decide⟩, by decide +kernel⟩
theorem refs_ok : (List.range 191).all (fun t => decide ((shp (t : Int)).1 < 10) || (flT ((shp (t : Int)).1 - 10)).all (fun z => decide (z.1 ≠ 1) || decide (lkR r0 (t : Int) z.2 = RC (t : Int) z.2))) = true := by decide +kernel
theorem shp_44 : (List.range 191).all (fun t => decide ((shp (t : Int)).1 ≠ 4 ∨ t = 44)) = true := by decide +kernel
theorem shp_69 : (List.range 191).all (fun t => decide (¬ (6 ≤ (shp (t : Int)).1 ∧ (shp (t : Int)).1 < 10))) = true := by decide +kernel
theorem r0_44 : r0.all (fun e => decide (e.1 = 44 → 0 ≤ e.2.1 ∧ e.2.1 < 12)) = true := by decide +kernel
theorem r0_12 : (List.range 12).all (fun j => decide (lkR r0 44 (j : Int) = RC 44 (j : Int))) = true := by decide +kernel
theorem rc_44 (j : Nat) : lkR r0 44 (j : Int) = RC 44 (j : Int) := by
  by_cases h : j < 12
  · exact of_decide_eq_true (List.all_eq_true.mp r0_12 j (List.mem_range.mpr h))
  · have h1 : lkR r0 44 (j : Int) = 0 := lkR_z fun e he e1 e2 => by
      have := of_decide_eq_true (List.all_eq_true.mp r0_44 e he)
      have := this e1
      omega
    rw [h1]
    unfold RC
    have hl : (rcT.getD (44 : Int).toNat []).length = 12 := by decide +kernel
    rw [List.getD_eq_getElem?_getD, List.getElem?_eq_none (by rw [hl]; omega)]
    rfl
theorem ent_st {Γ : Cfg} {g : GG} {t : Int} (t1 : 1 ≤ t) (t2 : t ≤ 190) : ent Γ (g, lkR r0, 190) t = ent Γ (stt g) t := by
  have ht : ((t.toNat : Nat) : Int) = t := Int.toNat_of_nonneg (by omega)
  have hm : t.toNat ∈ List.range 191 := List.mem_range.mpr (by omega)
  have h1 := List.all_eq_true.mp refs_ok _ hm
  have h2 := of_decide_eq_true (List.all_eq_true.mp shp_44 _ hm)
  have h9 := of_decide_eq_true (List.all_eq_true.mp shp_69 _ hm)
  rw [ht] at h1 h2 h9
  unfold ent
  generalize shp t = sh at h1 h2 h9
  obtain ⟨a, n⟩ := sh
  match a, h1, h2, h9 with
  | 0, _, _, _ => rfl
  | 1, _, _, _ => rfl
  | 2, _, _, _ => rfl
  | 3, _, _, _ => rfl
  | 4, _, h2, _ =>
    have e44 : t = 44 := by
      rcases h2 with h | h
      · exact absurd rfl h
      · omega
    subst e44
    show (Sum.inl (Γ.2.2.2.1 4, n, .inr (.inr (.inr (.inr (fun j : Nat => rf Γ (lkR r0 44 j)))))) : va_E) = Sum.inl (Γ.2.2.2.1 4, n, .inr (.inr (.inr (.inr (fun j : Nat => rf Γ (RC 44 j))))))
    simp only [rc_44]
  | 5, _, _, _ => rfl
  | k + 6, h1, _, h9 =>
    show (Sum.inr (k + 6 - 10, flv Γ (g, lkR r0, 190) t (k + 6 - 10)) : va_E) = Sum.inr (k + 6 - 10, flv Γ (stt g) t (k + 6 - 10))
    have e : flv Γ (g, lkR r0, 190) t (k + 6 - 10) = flv Γ (stt g) t (k + 6 - 10) := by
      unfold flv
      apply List.map_congr_left
      intro z hz
      by_cases hk : k + 6 < 10
      · exact absurd (show 6 ≤ k + 6 ∧ k + 6 < 10 from ⟨by omega, hk⟩) h9
      · simp only [Bool.or_eq_true, decide_eq_true_eq, List.all_eq_true] at h1
        rcases h1 with h1 | h1
        · exact absurd h1 (by omega)
        · have h3 := h1 z hz
          obtain ⟨c, i⟩ := z
          match c, h3 with
          | 0, _ => rfl
          | 1, h3 =>
            have h3 : lkR r0 t i = RC t i := by
              rcases h3 with h | h
              · exact absurd rfl h
              · exact h
            show va_rf (rf Γ (lkR r0 t i)) = va_rf (rf Γ (RC t i))
            rw [h3]
          | m + 2, _ => rfl
    rw [e]
theorem lw_st (q r : List (Int × Int × Int)) : LW [] 0 [] := ⟨fun e he => (by cases he), fun e he => (by cases he)⟩
set_option maxHeartbeats 1000000 in
theorem lc_start {Γ : Cfg} {l : Launch} {b : Nat} {K : Ou → HP → Prop} (hN : Γ.2.2.2.2.1 ≤ 3072) (hK : ∀ g, K (.inl (vI 1)) (stt g)) (hb : 6000 ≤ b) : AW Γ l mL_law_ 60 b 0 [vR 4000, vU, vU, vU, vU, vU, vU] [] (mkw [] 0 []) K := by
  have w : LW [] 0 [] := lw_st [] []
  refine aw_new (C := RX11) (T := TX11) (N := 18) (ci := 9) (idx := 8) (k := 2) (b' := b - 2) (t := 1) (n := 0) (q := []) (r := []) tyX11 (by decide) (by decide) w (show shp 1 = (19, 0) by decide +kernel) rfl (tb_mem 30 (by decide +kernel) (by decide +kernel)) (tb_mem 31 (by decide +kernel) (by decide +kernel)) (tb_mem 1 (by decide +kernel) (by decide +kernel)) inX11 tyX11_ok (by decide +kernel) (by decide +kernel) (by decide) (by omega) (fun w => ?_)
  refine aw_dup (by decide +kernel) trivial ?_
  refine aw_callI (idx := 126) (y := yX11_init) (M2 := mX11_init) (as := []) (S := [vR 1]) (t := 1) (d2 := 0 + 2) (b2 := 673) (b3 := b - 675) (by decide) cwX11_init (tb_mem 32 (by decide +kernel) (by decide +kernel)) imX11_init rfl rfl (by decide +kernel) rfl (by decide) (by omega) rfl rfl (by simp [oneSlot]) (Nat.le_of_ble_eq_true rfl) (ct_X11 (d := 0) (q := []) (r := []) w (by omega) (fun w => ?_))
  show AW Γ l mL_law_ 60 (b - 675) 7 [vR 4000, vU, vU, vU, vU, vU, vU] [vR 1] (mkw (qX11 []) 170 (rX11 [])) K
  refine aw_astore_n (k' := 1) (by decide +kernel) (by decide) ?_
  show AW Γ l mL_law_ 60 (b - 675) 8 [vR 4000, vR 1, vU, vU, vU, vU, vU] [] (mkw (qX11 []) 170 (rX11 [])) K
  refine aw_new (C := RX12) (T := TX12) (N := 34) (ci := 10) (idx := 127) (k := 3) (b' := b - 678) (t := 171) (n := 170) (q := qX11 []) (r := rX11 []) tyX12 (by decide) (by decide) w (show shp 171 = (20, 0) by decide +kernel) rfl (tb_mem 1326 (by decide +kernel) (by decide +kernel)) (tb_mem 1327 (by decide +kernel) (by decide +kernel)) (tb_mem 13 (by decide +kernel) (by decide +kernel)) inX12 tyX12_ok (by decide +kernel) (by decide +kernel) (by decide) (by omega) (fun w => ?_)
  refine aw_dup (by decide +kernel) trivial ?_
  refine aw_callI (idx := 129) (y := yX12_init) (M2 := mX12_init) (as := []) (S := [vR 171]) (t := 171) (d2 := 0) (b2 := 772) (b3 := b - 1450) (by decide) cwX12_init (tb_mem 1328 (by decide +kernel) (by decide +kernel)) imX12_init rfl rfl (by decide +kernel) rfl (by decide) (by omega) rfl rfl (by simp [oneSlot]) (Nat.le_of_ble_eq_true rfl) (ct_X12 (q := qX11 []) (r := rX11 []) w (by omega) (fun w => ?_))
  show AW Γ l mL_law_ 60 (b - 1450) 15 [vR 4000, vR 1, vU, vU, vU, vU, vU] [vR 171] (mkw q0 189 r0) K
  refine aw_astore_n (k' := 2) (by decide +kernel) (by decide) ?_
  show AW Γ l mL_law_ 60 (b - 1450) 16 [vR 4000, vR 1, vR 171, vU, vU, vU, vU] [] (mkw q0 189 r0) K
  refine aw_iconst (n := 1) (by decide +kernel) ?_
  refine aw_newa (at9 := .long) (ty := .long) (kd := 3) (n9 := 1) (k := 1) (b' := b - 1451) (t := 190) (n := 189) (q := q0) (r := r0) 1 (by decide) (by decide) w (show shp 190 = (3, 1) by decide +kernel) rfl (by decide) rfl (tb_mem 2030 (by decide +kernel) (by decide +kernel)) (by decide +kernel) (by decide +kernel) (Nat.le_of_ble_eq_true rfl) (by decide +kernel) ⟨Nat.le_of_ble_eq_true rfl, Nat.le_of_ble_eq_true rfl⟩ (by omega) (fun w => ?_)
  refine aw_astore_n (k' := 3) (by decide +kernel) (by decide) ?_
  show AW Γ l mL_law_ 60 (b - 1451) 20 [vR 4000, vR 1, vR 171, vR 190, vU, vU, vU] [] (mkw q0 190 r0) K
  refine AW.cells (h' := stt (lkR q0)) rfl (fun t t1 t2 => by rw [show ent Γ (mkw q0 190 r0) t = ent Γ (stt (lkR q0)) t from ent_st t1 t2]) (Nat.le_refl _) ?_
  refine aw_iconst (n := 0) (by decide +kernel) ?_
  refine aw_istore (i := 4) (by decide +kernel) (by decide) ?_
  show AW Γ l mL_law_ 60 (b - 1451) 23 [vR 4000, vR 1, vR 171, vR 190, vI 0, vU, vU] [] (stt (lkR q0)) K
  exact lc_loop hN hK 512 _ 0 _ (by decide) (by omega) (by decide) (by omega) rel0
