/-! THE CONSTRUCTORS, walked (genI.py) -/
theorem ct_X0 {Γ : Cfg} {l : Launch} {d b : Nat} {t : Int} {n : Nat} {q r : List (Int × Int × Int)} {K : Ou → HP → Prop} (ht : 1 ≤ t) (w : LW q n r) (k : LW q n r → K (.inl vU) (mkw q n r)) : Ct Γ l d b yX0_init mX0_init [vR t] (mkw q n r) K := by
  refine Ct.enter (L := [vR t]) rfl rfl rfl (by decide +kernel) (by simp [oneSlot]) (Nat.le_of_ble_eq_true rfl) rfl ?_
  refine aw_aload_n (k' := 0) (by decide +kernel) rfl ?_
  refine aw_objI (idx := 3) ht (tb_mem 229 (by decide +kernel) (by decide +kernel)) (by simp [oneSlot]) (Nat.le_of_ble_eq_true rfl) (by decide +kernel) ?_
  exact aw_vret (by decide +kernel) rfl (k w)
def qX2 (t : Int) (q : List (Int × Int × Int)) : List (Int × Int × Int) := (t, 14, 0) :: (t, 13, 1) :: (t, 12, 0) :: (t, 11, 0) :: (t, 10, 20) :: (t, 9, 0) :: (t, 8, 0) :: q
def rX2 (t : Int) (r : List (Int × Int × Int)) : List (Int × Int × Int) := (t, 7, (t + 1 + 7)) :: (t, 6, (t + 1 + 6)) :: (t, 5, (t + 1 + 5)) :: (t, 4, (t + 1 + 4)) :: (t, 3, (t + 1 + 3)) :: (t, 2, (t + 1 + 2)) :: (t, 1, (t + 1 + 1)) :: (t, 0, (t + 1 + 0)) :: r
set_option maxHeartbeats 4000000 in
set_option maxRecDepth 100000 in
theorem ct_X2 {Γ : Cfg} {l : Launch} {d b : Nat} {t : Int} {n : Nat} {q r : List (Int × Int × Int)} {K : Ou → HP → Prop} (hH : HI t) (ht : t = (n : Int)) (w : LW q n r) (hb : 30 ≤ b) (k : LW (qX2 t q) (n + 8) (rX2 t r) → K (.inl vU) (mkw (qX2 t q) (n + 8) (rX2 t r))) : Ct Γ l d b yX2_init mX2_init [vR t] (mkw q n r) K := by
  have hrg : 8 ≤ t ∧ t ≤ 144 := of_decide_eq_true (HI.all0 (P := fun t => decide (8 ≤ t ∧ t ≤ 144)) (by decide +kernel) hH)
  refine Ct.enter (L := [vR t]) rfl rfl rfl (by decide +kernel) (by simp [oneSlot]) (Nat.le_of_ble_eq_true rfl) rfl ?_
  refine aw_aload_n (k' := 0) (by decide +kernel) rfl ?_
  refine aw_objI (idx := 3) (by omega) (tb_mem 96 (by decide +kernel) (by decide +kernel)) (by simp [oneSlot]) (Nat.le_of_ble_eq_true rfl) (by decide +kernel) ?_
  refine aw_aload_n (k' := 0) (by decide +kernel) rfl ?_
  refine aw_bipush (n := 72) (by decide +kernel) (by decide +kernel) ?_
  refine aw_newa (at9 := .int) (ty := .int) (kd := 0) (n9 := 72) (k := 5) (b' := (b - 5)) (t := (t + 1 + 0)) (n := n) (q := q) (r := r) 72 (by omega) (by omega) w (of_decide_eq_true (HI.all0 (P := fun t => decide (shp (t + 1 + 0) = (0, 72))) (by decide +kernel) hH)) rfl (by decide) rfl (tb_mem 53 (by decide +kernel) (by decide +kernel)) (by decide +kernel) (by decide +kernel) (Nat.le_of_ble_eq_true rfl) (by decide +kernel) ⟨Nat.le_of_ble_eq_true rfl, Nat.le_of_ble_eq_true rfl⟩ (by omega) (fun w => ?_)
  show AW Γ l mX2_init d (b - 5) 9 [vR t] [vR ((t + 1 + 0)), vR t] (mkw q (n + 1) r) K
  refine aw_putR (C := RX2) (T := TX2) (N := 15) (ci := 2) (idx := 9) (k := 0) (j := 0) tyX2 w (by decide) (by decide +kernel) rfl (by decide) rfl rfl rfl (tb_mem 97 (by decide +kernel) (by decide +kernel)) inX2 tyX2_ok nmX2 rfl rfl rfl (of_decide_eq_true (HI.all0 (P := fun t => decide (shp t = (12, 0))) (by decide +kernel) hH)) (show (t : Int) ≤ (((n + 1) : Nat) : Int) by omega) (fun w => ?_)
  show AW Γ l mX2_init d (b - 5) 12 [vR t] [] (mkw q (n + 1) ((t, 0, (t + 1 + 0)) :: r)) K
  refine aw_aload_n (k' := 0) (by decide +kernel) rfl ?_
  refine aw_bipush (n := 6) (by decide +kernel) (by decide +kernel) ?_
  refine aw_newa (at9 := .int) (ty := .int) (kd := 0) (n9 := 6) (k := 1) (b' := (b - 6)) (t := (t + 1 + 1)) (n := (n + 1)) (q := q) (r := (t, 0, (t + 1 + 0)) :: r) 6 (by omega) (by omega) w (of_decide_eq_true (HI.all0 (P := fun t => decide (shp (t + 1 + 1) = (0, 6))) (by decide +kernel) hH)) rfl (by decide) rfl (tb_mem 53 (by decide +kernel) (by decide +kernel)) (by decide +kernel) (by decide +kernel) (Nat.le_of_ble_eq_true rfl) (by decide +kernel) ⟨Nat.le_of_ble_eq_true rfl, Nat.le_of_ble_eq_true rfl⟩ (by omega) (fun w => ?_)
  show AW Γ l mX2_init d (b - 6) 17 [vR t] [vR ((t + 1 + 1)), vR t] (mkw q (n + 2) ((t, 0, (t + 1 + 0)) :: r)) K
  refine aw_putR (C := RX2) (T := TX2) (N := 15) (ci := 2) (idx := 15) (k := 1) (j := 1) tyX2 w (by decide) (by decide +kernel) rfl (by decide) rfl rfl rfl (tb_mem 100 (by decide +kernel) (by decide +kernel)) inX2 tyX2_ok nmX2 rfl rfl rfl (of_decide_eq_true (HI.all0 (P := fun t => decide (shp t = (12, 0))) (by decide +kernel) hH)) (show (t : Int) ≤ (((n + 2) : Nat) : Int) by omega) (fun w => ?_)
  show AW Γ l mX2_init d (b - 6) 20 [vR t] [] (mkw q (n + 2) ((t, 1, (t + 1 + 1)) :: (t, 0, (t + 1 + 0)) :: r)) K
  refine aw_aload_n (k' := 0) (by decide +kernel) rfl ?_
  refine aw_bipush (n := 6) (by decide +kernel) (by decide +kernel) ?_
  refine aw_newa (at9 := .int) (ty := .int) (kd := 0) (n9 := 6) (k := 1) (b' := (b - 7)) (t := (t + 1 + 2)) (n := (n + 2)) (q := q) (r := (t, 1, (t + 1 + 1)) :: (t, 0, (t + 1 + 0)) :: r) 6 (by omega) (by omega) w (of_decide_eq_true (HI.all0 (P := fun t => decide (shp (t + 1 + 2) = (0, 6))) (by decide +kernel) hH)) rfl (by decide) rfl (tb_mem 53 (by decide +kernel) (by decide +kernel)) (by decide +kernel) (by decide +kernel) (Nat.le_of_ble_eq_true rfl) (by decide +kernel) ⟨Nat.le_of_ble_eq_true rfl, Nat.le_of_ble_eq_true rfl⟩ (by omega) (fun w => ?_)
  show AW Γ l mX2_init d (b - 7) 25 [vR t] [vR ((t + 1 + 2)), vR t] (mkw q (n + 3) ((t, 1, (t + 1 + 1)) :: (t, 0, (t + 1 + 0)) :: r)) K
  refine aw_putR (C := RX2) (T := TX2) (N := 15) (ci := 2) (idx := 18) (k := 2) (j := 2) tyX2 w (by decide) (by decide +kernel) rfl (by decide) rfl rfl rfl (tb_mem 106 (by decide +kernel) (by decide +kernel)) inX2 tyX2_ok nmX2 rfl rfl rfl (of_decide_eq_true (HI.all0 (P := fun t => decide (shp t = (12, 0))) (by decide +kernel) hH)) (show (t : Int) ≤ (((n + 3) : Nat) : Int) by omega) (fun w => ?_)
  show AW Γ l mX2_init d (b - 7) 28 [vR t] [] (mkw q (n + 3) ((t, 2, (t + 1 + 2)) :: (t, 1, (t + 1 + 1)) :: (t, 0, (t + 1 + 0)) :: r)) K
  refine aw_aload_n (k' := 0) (by decide +kernel) rfl ?_
  refine aw_bipush (n := 6) (by decide +kernel) (by decide +kernel) ?_
  refine aw_newa (at9 := .int) (ty := .int) (kd := 0) (n9 := 6) (k := 1) (b' := (b - 8)) (t := (t + 1 + 3)) (n := (n + 3)) (q := q) (r := (t, 2, (t + 1 + 2)) :: (t, 1, (t + 1 + 1)) :: (t, 0, (t + 1 + 0)) :: r) 6 (by omega) (by omega) w (of_decide_eq_true (HI.all0 (P := fun t => decide (shp (t + 1 + 3) = (0, 6))) (by decide +kernel) hH)) rfl (by decide) rfl (tb_mem 53 (by decide +kernel) (by decide +kernel)) (by decide +kernel) (by decide +kernel) (Nat.le_of_ble_eq_true rfl) (by decide +kernel) ⟨Nat.le_of_ble_eq_true rfl, Nat.le_of_ble_eq_true rfl⟩ (by omega) (fun w => ?_)
  show AW Γ l mX2_init d (b - 8) 33 [vR t] [vR ((t + 1 + 3)), vR t] (mkw q (n + 4) ((t, 2, (t + 1 + 2)) :: (t, 1, (t + 1 + 1)) :: (t, 0, (t + 1 + 0)) :: r)) K
  refine aw_putR (C := RX2) (T := TX2) (N := 15) (ci := 2) (idx := 21) (k := 3) (j := 3) tyX2 w (by decide) (by decide +kernel) rfl (by decide) rfl rfl rfl (tb_mem 110 (by decide +kernel) (by decide +kernel)) inX2 tyX2_ok nmX2 rfl rfl rfl (of_decide_eq_true (HI.all0 (P := fun t => decide (shp t = (12, 0))) (by decide +kernel) hH)) (show (t : Int) ≤ (((n + 4) : Nat) : Int) by omega) (fun w => ?_)
  show AW Γ l mX2_init d (b - 8) 36 [vR t] [] (mkw q (n + 4) ((t, 3, (t + 1 + 3)) :: (t, 2, (t + 1 + 2)) :: (t, 1, (t + 1 + 1)) :: (t, 0, (t + 1 + 0)) :: r)) K
  refine aw_aload_n (k' := 0) (by decide +kernel) rfl ?_
  refine aw_bipush (n := 6) (by decide +kernel) (by decide +kernel) ?_
  refine aw_newa (at9 := .int) (ty := .int) (kd := 0) (n9 := 6) (k := 1) (b' := (b - 9)) (t := (t + 1 + 4)) (n := (n + 4)) (q := q) (r := (t, 3, (t + 1 + 3)) :: (t, 2, (t + 1 + 2)) :: (t, 1, (t + 1 + 1)) :: (t, 0, (t + 1 + 0)) :: r) 6 (by omega) (by omega) w (of_decide_eq_true (HI.all0 (P := fun t => decide (shp (t + 1 + 4) = (0, 6))) (by decide +kernel) hH)) rfl (by decide) rfl (tb_mem 53 (by decide +kernel) (by decide +kernel)) (by decide +kernel) (by decide +kernel) (Nat.le_of_ble_eq_true rfl) (by decide +kernel) ⟨Nat.le_of_ble_eq_true rfl, Nat.le_of_ble_eq_true rfl⟩ (by omega) (fun w => ?_)
  show AW Γ l mX2_init d (b - 9) 41 [vR t] [vR ((t + 1 + 4)), vR t] (mkw q (n + 5) ((t, 3, (t + 1 + 3)) :: (t, 2, (t + 1 + 2)) :: (t, 1, (t + 1 + 1)) :: (t, 0, (t + 1 + 0)) :: r)) K
  refine aw_putR (C := RX2) (T := TX2) (N := 15) (ci := 2) (idx := 24) (k := 4) (j := 4) tyX2 w (by decide) (by decide +kernel) rfl (by decide) rfl rfl rfl (tb_mem 114 (by decide +kernel) (by decide +kernel)) inX2 tyX2_ok nmX2 rfl rfl rfl (of_decide_eq_true (HI.all0 (P := fun t => decide (shp t = (12, 0))) (by decide +kernel) hH)) (show (t : Int) ≤ (((n + 5) : Nat) : Int) by omega) (fun w => ?_)
  show AW Γ l mX2_init d (b - 9) 44 [vR t] [] (mkw q (n + 5) ((t, 4, (t + 1 + 4)) :: (t, 3, (t + 1 + 3)) :: (t, 2, (t + 1 + 2)) :: (t, 1, (t + 1 + 1)) :: (t, 0, (t + 1 + 0)) :: r)) K
  refine aw_aload_n (k' := 0) (by decide +kernel) rfl ?_
  refine aw_bipush (n := 6) (by decide +kernel) (by decide +kernel) ?_
  refine aw_newa (at9 := .int) (ty := .int) (kd := 0) (n9 := 6) (k := 1) (b' := (b - 10)) (t := (t + 1 + 5)) (n := (n + 5)) (q := q) (r := (t, 4, (t + 1 + 4)) :: (t, 3, (t + 1 + 3)) :: (t, 2, (t + 1 + 2)) :: (t, 1, (t + 1 + 1)) :: (t, 0, (t + 1 + 0)) :: r) 6 (by omega) (by omega) w (of_decide_eq_true (HI.all0 (P := fun t => decide (shp (t + 1 + 5) = (0, 6))) (by decide +kernel) hH)) rfl (by decide) rfl (tb_mem 53 (by decide +kernel) (by decide +kernel)) (by decide +kernel) (by decide +kernel) (Nat.le_of_ble_eq_true rfl) (by decide +kernel) ⟨Nat.le_of_ble_eq_true rfl, Nat.le_of_ble_eq_true rfl⟩ (by omega) (fun w => ?_)
  show AW Γ l mX2_init d (b - 10) 49 [vR t] [vR ((t + 1 + 5)), vR t] (mkw q (n + 6) ((t, 4, (t + 1 + 4)) :: (t, 3, (t + 1 + 3)) :: (t, 2, (t + 1 + 2)) :: (t, 1, (t + 1 + 1)) :: (t, 0, (t + 1 + 0)) :: r)) K
  refine aw_putR (C := RX2) (T := TX2) (N := 15) (ci := 2) (idx := 27) (k := 5) (j := 5) tyX2 w (by decide) (by decide +kernel) rfl (by decide) rfl rfl rfl (tb_mem 117 (by decide +kernel) (by decide +kernel)) inX2 tyX2_ok nmX2 rfl rfl rfl (of_decide_eq_true (HI.all0 (P := fun t => decide (shp t = (12, 0))) (by decide +kernel) hH)) (show (t : Int) ≤ (((n + 6) : Nat) : Int) by omega) (fun w => ?_)
  show AW Γ l mX2_init d (b - 10) 52 [vR t] [] (mkw q (n + 6) ((t, 5, (t + 1 + 5)) :: (t, 4, (t + 1 + 4)) :: (t, 3, (t + 1 + 3)) :: (t, 2, (t + 1 + 2)) :: (t, 1, (t + 1 + 1)) :: (t, 0, (t + 1 + 0)) :: r)) K
  refine aw_aload_n (k' := 0) (by decide +kernel) rfl ?_
  refine aw_iconst (n := 4) (by decide +kernel) ?_
  refine aw_newa (at9 := .int) (ty := .int) (kd := 0) (n9 := 4) (k := 1) (b' := (b - 11)) (t := (t + 1 + 6)) (n := (n + 6)) (q := q) (r := (t, 5, (t + 1 + 5)) :: (t, 4, (t + 1 + 4)) :: (t, 3, (t + 1 + 3)) :: (t, 2, (t + 1 + 2)) :: (t, 1, (t + 1 + 1)) :: (t, 0, (t + 1 + 0)) :: r) 4 (by omega) (by omega) w (of_decide_eq_true (HI.all0 (P := fun t => decide (shp (t + 1 + 6) = (0, 4))) (by decide +kernel) hH)) rfl (by decide) rfl (tb_mem 53 (by decide +kernel) (by decide +kernel)) (by decide +kernel) (by decide +kernel) (Nat.le_of_ble_eq_true rfl) (by decide +kernel) ⟨Nat.le_of_ble_eq_true rfl, Nat.le_of_ble_eq_true rfl⟩ (by omega) (fun w => ?_)
  show AW Γ l mX2_init d (b - 11) 56 [vR t] [vR ((t + 1 + 6)), vR t] (mkw q (n + 7) ((t, 5, (t + 1 + 5)) :: (t, 4, (t + 1 + 4)) :: (t, 3, (t + 1 + 3)) :: (t, 2, (t + 1 + 2)) :: (t, 1, (t + 1 + 1)) :: (t, 0, (t + 1 + 0)) :: r)) K
  refine aw_putR (C := RX2) (T := TX2) (N := 15) (ci := 2) (idx := 30) (k := 6) (j := 6) tyX2 w (by decide) (by decide +kernel) rfl (by decide) rfl rfl rfl (tb_mem 120 (by decide +kernel) (by decide +kernel)) inX2 tyX2_ok nmX2 rfl rfl rfl (of_decide_eq_true (HI.all0 (P := fun t => decide (shp t = (12, 0))) (by decide +kernel) hH)) (show (t : Int) ≤ (((n + 7) : Nat) : Int) by omega) (fun w => ?_)
  show AW Γ l mX2_init d (b - 11) 59 [vR t] [] (mkw q (n + 7) ((t, 6, (t + 1 + 6)) :: (t, 5, (t + 1 + 5)) :: (t, 4, (t + 1 + 4)) :: (t, 3, (t + 1 + 3)) :: (t, 2, (t + 1 + 2)) :: (t, 1, (t + 1 + 1)) :: (t, 0, (t + 1 + 0)) :: r)) K
  refine aw_aload_n (k' := 0) (by decide +kernel) rfl ?_
  refine aw_sipush (n := 300) (by decide +kernel) (by decide +kernel) ?_
  refine aw_newa (at9 := .int) (ty := .int) (kd := 0) (n9 := 300) (k := 19) (b' := (b - 30)) (t := (t + 1 + 7)) (n := (n + 7)) (q := q) (r := (t, 6, (t + 1 + 6)) :: (t, 5, (t + 1 + 5)) :: (t, 4, (t + 1 + 4)) :: (t, 3, (t + 1 + 3)) :: (t, 2, (t + 1 + 2)) :: (t, 1, (t + 1 + 1)) :: (t, 0, (t + 1 + 0)) :: r) 300 (by omega) (by omega) w (of_decide_eq_true (HI.all0 (P := fun t => decide (shp (t + 1 + 7) = (0, 300))) (by decide +kernel) hH)) rfl (by decide) rfl (tb_mem 53 (by decide +kernel) (by decide +kernel)) (by decide +kernel) (by decide +kernel) (Nat.le_of_ble_eq_true rfl) (by decide +kernel) ⟨Nat.le_of_ble_eq_true rfl, Nat.le_of_ble_eq_true rfl⟩ (by omega) (fun w => ?_)
  show AW Γ l mX2_init d (b - 30) 65 [vR t] [vR ((t + 1 + 7)), vR t] (mkw q (n + 8) ((t, 6, (t + 1 + 6)) :: (t, 5, (t + 1 + 5)) :: (t, 4, (t + 1 + 4)) :: (t, 3, (t + 1 + 3)) :: (t, 2, (t + 1 + 2)) :: (t, 1, (t + 1 + 1)) :: (t, 0, (t + 1 + 0)) :: r)) K
  refine aw_putR (C := RX2) (T := TX2) (N := 15) (ci := 2) (idx := 33) (k := 7) (j := 7) tyX2 w (by decide) (by decide +kernel) rfl (by decide) rfl rfl rfl (tb_mem 125 (by decide +kernel) (by decide +kernel)) inX2 tyX2_ok nmX2 rfl rfl rfl (of_decide_eq_true (HI.all0 (P := fun t => decide (shp t = (12, 0))) (by decide +kernel) hH)) (show (t : Int) ≤ (((n + 8) : Nat) : Int) by omega) (fun w => ?_)
  show AW Γ l mX2_init d (b - 30) 68 [vR t] [] (mkw q (n + 8) ((t, 7, (t + 1 + 7)) :: (t, 6, (t + 1 + 6)) :: (t, 5, (t + 1 + 5)) :: (t, 4, (t + 1 + 4)) :: (t, 3, (t + 1 + 3)) :: (t, 2, (t + 1 + 2)) :: (t, 1, (t + 1 + 1)) :: (t, 0, (t + 1 + 0)) :: r)) K
  refine aw_aload_n (k' := 0) (by decide +kernel) rfl ?_
  refine aw_iconst (n := 0) (by decide +kernel) ?_
  refine pfX2_36 rfl (by decide +kernel) ⟨(of_decide_eq_true (HI.all0 (P := fun t => decide (shp t = (12, 0))) (by decide +kernel) hH)), (show (t : Int) ≤ (((n + 8) : Nat) : Int) by omega)⟩ ?_
  have w := w.pq (t := t) (j := 8) (v := 0) (show (t : Int) ≤ (((n + 8) : Nat) : Int) by omega)
  show AW Γ l mX2_init d (b - 30) 73 [vR t] [] (mkw ((t, 8, 0) :: q) (n + 8) ((t, 7, (t + 1 + 7)) :: (t, 6, (t + 1 + 6)) :: (t, 5, (t + 1 + 5)) :: (t, 4, (t + 1 + 4)) :: (t, 3, (t + 1 + 3)) :: (t, 2, (t + 1 + 2)) :: (t, 1, (t + 1 + 1)) :: (t, 0, (t + 1 + 0)) :: r)) K
  refine aw_aload_n (k' := 0) (by decide +kernel) rfl ?_
  refine aw_iconst (n := 0) (by decide +kernel) ?_
  refine pfX2_40 rfl (by decide +kernel) ⟨(of_decide_eq_true (HI.all0 (P := fun t => decide (shp t = (12, 0))) (by decide +kernel) hH)), (show (t : Int) ≤ (((n + 8) : Nat) : Int) by omega)⟩ ?_
  have w := w.pq (t := t) (j := 9) (v := 0) (show (t : Int) ≤ (((n + 8) : Nat) : Int) by omega)
  show AW Γ l mX2_init d (b - 30) 78 [vR t] [] (mkw ((t, 9, 0) :: (t, 8, 0) :: q) (n + 8) ((t, 7, (t + 1 + 7)) :: (t, 6, (t + 1 + 6)) :: (t, 5, (t + 1 + 5)) :: (t, 4, (t + 1 + 4)) :: (t, 3, (t + 1 + 3)) :: (t, 2, (t + 1 + 2)) :: (t, 1, (t + 1 + 1)) :: (t, 0, (t + 1 + 0)) :: r)) K
  refine aw_aload_n (k' := 0) (by decide +kernel) rfl ?_
  refine aw_bipush (n := 20) (by decide +kernel) (by decide +kernel) ?_
  refine pfX2_43 rfl (by decide +kernel) ⟨(of_decide_eq_true (HI.all0 (P := fun t => decide (shp t = (12, 0))) (by decide +kernel) hH)), (show (t : Int) ≤ (((n + 8) : Nat) : Int) by omega)⟩ ?_
  have w := w.pq (t := t) (j := 10) (v := 20) (show (t : Int) ≤ (((n + 8) : Nat) : Int) by omega)
  show AW Γ l mX2_init d (b - 30) 84 [vR t] [] (mkw ((t, 10, 20) :: (t, 9, 0) :: (t, 8, 0) :: q) (n + 8) ((t, 7, (t + 1 + 7)) :: (t, 6, (t + 1 + 6)) :: (t, 5, (t + 1 + 5)) :: (t, 4, (t + 1 + 4)) :: (t, 3, (t + 1 + 3)) :: (t, 2, (t + 1 + 2)) :: (t, 1, (t + 1 + 1)) :: (t, 0, (t + 1 + 0)) :: r)) K
  refine aw_aload_n (k' := 0) (by decide +kernel) rfl ?_
  refine aw_iconst (n := 0) (by decide +kernel) ?_
  refine pfX2_46 rfl (by decide +kernel) ⟨(of_decide_eq_true (HI.all0 (P := fun t => decide (shp t = (12, 0))) (by decide +kernel) hH)), (show (t : Int) ≤ (((n + 8) : Nat) : Int) by omega)⟩ ?_
  have w := w.pq (t := t) (j := 11) (v := 0) (show (t : Int) ≤ (((n + 8) : Nat) : Int) by omega)
  show AW Γ l mX2_init d (b - 30) 89 [vR t] [] (mkw ((t, 11, 0) :: (t, 10, 20) :: (t, 9, 0) :: (t, 8, 0) :: q) (n + 8) ((t, 7, (t + 1 + 7)) :: (t, 6, (t + 1 + 6)) :: (t, 5, (t + 1 + 5)) :: (t, 4, (t + 1 + 4)) :: (t, 3, (t + 1 + 3)) :: (t, 2, (t + 1 + 2)) :: (t, 1, (t + 1 + 1)) :: (t, 0, (t + 1 + 0)) :: r)) K
  refine aw_aload_n (k' := 0) (by decide +kernel) rfl ?_
  refine aw_iconst (n := 0) (by decide +kernel) ?_
  refine pfX2_49 rfl (by decide +kernel) ⟨(of_decide_eq_true (HI.all0 (P := fun t => decide (shp t = (12, 0))) (by decide +kernel) hH)), (show (t : Int) ≤ (((n + 8) : Nat) : Int) by omega)⟩ ?_
  have w := w.pq (t := t) (j := 12) (v := 0) (show (t : Int) ≤ (((n + 8) : Nat) : Int) by omega)
  show AW Γ l mX2_init d (b - 30) 94 [vR t] [] (mkw ((t, 12, 0) :: (t, 11, 0) :: (t, 10, 20) :: (t, 9, 0) :: (t, 8, 0) :: q) (n + 8) ((t, 7, (t + 1 + 7)) :: (t, 6, (t + 1 + 6)) :: (t, 5, (t + 1 + 5)) :: (t, 4, (t + 1 + 4)) :: (t, 3, (t + 1 + 3)) :: (t, 2, (t + 1 + 2)) :: (t, 1, (t + 1 + 1)) :: (t, 0, (t + 1 + 0)) :: r)) K
  refine aw_aload_n (k' := 0) (by decide +kernel) rfl ?_
  refine aw_iconst (n := 1) (by decide +kernel) ?_
  refine pfX2_52 rfl (by decide +kernel) ⟨(of_decide_eq_true (HI.all0 (P := fun t => decide (shp t = (12, 0))) (by decide +kernel) hH)), (show (t : Int) ≤ (((n + 8) : Nat) : Int) by omega)⟩ ?_
  have w := w.pq (t := t) (j := 13) (v := 1) (show (t : Int) ≤ (((n + 8) : Nat) : Int) by omega)
  show AW Γ l mX2_init d (b - 30) 99 [vR t] [] (mkw ((t, 13, 1) :: (t, 12, 0) :: (t, 11, 0) :: (t, 10, 20) :: (t, 9, 0) :: (t, 8, 0) :: q) (n + 8) ((t, 7, (t + 1 + 7)) :: (t, 6, (t + 1 + 6)) :: (t, 5, (t + 1 + 5)) :: (t, 4, (t + 1 + 4)) :: (t, 3, (t + 1 + 3)) :: (t, 2, (t + 1 + 2)) :: (t, 1, (t + 1 + 1)) :: (t, 0, (t + 1 + 0)) :: r)) K
  refine aw_aload_n (k' := 0) (by decide +kernel) rfl ?_
  refine aw_iconst (n := 0) (by decide +kernel) ?_
  refine pfX2_55 rfl (by decide +kernel) ⟨(of_decide_eq_true (HI.all0 (P := fun t => decide (shp t = (12, 0))) (by decide +kernel) hH)), (show (t : Int) ≤ (((n + 8) : Nat) : Int) by omega)⟩ ?_
  have w := w.pq (t := t) (j := 14) (v := 0) (show (t : Int) ≤ (((n + 8) : Nat) : Int) by omega)
  show AW Γ l mX2_init d (b - 30) 104 [vR t] [] (mkw ((t, 14, 0) :: (t, 13, 1) :: (t, 12, 0) :: (t, 11, 0) :: (t, 10, 20) :: (t, 9, 0) :: (t, 8, 0) :: q) (n + 8) ((t, 7, (t + 1 + 7)) :: (t, 6, (t + 1 + 6)) :: (t, 5, (t + 1 + 5)) :: (t, 4, (t + 1 + 4)) :: (t, 3, (t + 1 + 3)) :: (t, 2, (t + 1 + 2)) :: (t, 1, (t + 1 + 1)) :: (t, 0, (t + 1 + 0)) :: r)) K
  exact aw_vret (by decide +kernel) rfl (k w)
def qX4 (t : Int) (q : List (Int × Int × Int)) : List (Int × Int × Int) := (t, 7, 0) :: (t, 6, 0) :: (t, 5, 0) :: (t, 4, 0) :: (t, 3, 0) :: (t, 2, 0) :: q
def rX4 (t : Int) (r : List (Int × Int × Int)) : List (Int × Int × Int) := (t, 1, (t + 1 + 1)) :: (t, 0, (t + 1 + 0)) :: r
set_option maxHeartbeats 4000000 in
set_option maxRecDepth 100000 in
theorem ct_X4 {Γ : Cfg} {l : Launch} {d b : Nat} {t : Int} {n : Nat} {q r : List (Int × Int × Int)} {K : Ou → HP → Prop} (hH : LA t) (ht : t = (n : Int)) (w : LW q n r) (hb : 27 ≤ b) (k : LW (qX4 t q) (n + 2) (rX4 t r) → K (.inl vU) (mkw (qX4 t q) (n + 2) (rX4 t r))) : Ct Γ l d b yX4_init mX4_init [vR t] (mkw q n r) K := by
  have hrg : 8 ≤ t ∧ t ≤ 144 := of_decide_eq_true (LA.all0 (P := fun t => decide (8 ≤ t ∧ t ≤ 144)) (by decide +kernel) hH)
  refine Ct.enter (L := [vR t]) rfl rfl rfl (by decide +kernel) (by simp [oneSlot]) (Nat.le_of_ble_eq_true rfl) rfl ?_
  refine aw_aload_n (k' := 0) (by decide +kernel) rfl ?_
  refine aw_objI (idx := 3) (by omega) (tb_mem 186 (by decide +kernel) (by decide +kernel)) (by simp [oneSlot]) (Nat.le_of_ble_eq_true rfl) (by decide +kernel) ?_
  refine aw_aload_n (k' := 0) (by decide +kernel) rfl ?_
  refine aw_sipush (n := 400) (by decide +kernel) (by decide +kernel) ?_
  refine aw_newa (at9 := .int) (ty := .int) (kd := 0) (n9 := 400) (k := 25) (b' := (b - 25)) (t := (t + 1 + 0)) (n := n) (q := q) (r := r) 400 (by omega) (by omega) w (of_decide_eq_true (LA.all0 (P := fun t => decide (shp (t + 1 + 0) = (0, 400))) (by decide +kernel) hH)) rfl (by decide) rfl (tb_mem 53 (by decide +kernel) (by decide +kernel)) (by decide +kernel) (by decide +kernel) (Nat.le_of_ble_eq_true rfl) (by decide +kernel) ⟨Nat.le_of_ble_eq_true rfl, Nat.le_of_ble_eq_true rfl⟩ (by omega) (fun w => ?_)
  show AW Γ l mX4_init d (b - 25) 10 [vR t] [vR ((t + 1 + 0)), vR t] (mkw q (n + 1) r) K
  refine aw_putR (C := RX4) (T := TX4) (N := 8) (ci := 3) (idx := 9) (k := 0) (j := 0) tyX4 w (by decide) (by decide +kernel) rfl (by decide) rfl rfl rfl (tb_mem 187 (by decide +kernel) (by decide +kernel)) inX4 tyX4_ok nmX4 rfl rfl rfl (of_decide_eq_true (LA.all0 (P := fun t => decide (shp t = (13, 0))) (by decide +kernel) hH)) (show (t : Int) ≤ (((n + 1) : Nat) : Int) by omega) (fun w => ?_)
  show AW Γ l mX4_init d (b - 25) 13 [vR t] [] (mkw q (n + 1) ((t, 0, (t + 1 + 0)) :: r)) K
  refine aw_aload_n (k' := 0) (by decide +kernel) rfl ?_
  refine aw_bipush (n := 32) (by decide +kernel) (by decide +kernel) ?_
  refine aw_newa (at9 := .int) (ty := .int) (kd := 0) (n9 := 32) (k := 2) (b' := (b - 27)) (t := (t + 1 + 1)) (n := (n + 1)) (q := q) (r := (t, 0, (t + 1 + 0)) :: r) 32 (by omega) (by omega) w (of_decide_eq_true (LA.all0 (P := fun t => decide (shp (t + 1 + 1) = (0, 32))) (by decide +kernel) hH)) rfl (by decide) rfl (tb_mem 53 (by decide +kernel) (by decide +kernel)) (by decide +kernel) (by decide +kernel) (Nat.le_of_ble_eq_true rfl) (by decide +kernel) ⟨Nat.le_of_ble_eq_true rfl, Nat.le_of_ble_eq_true rfl⟩ (by omega) (fun w => ?_)
  show AW Γ l mX4_init d (b - 27) 18 [vR t] [vR ((t + 1 + 1)), vR t] (mkw q (n + 2) ((t, 0, (t + 1 + 0)) :: r)) K
  refine aw_putR (C := RX4) (T := TX4) (N := 8) (ci := 3) (idx := 15) (k := 1) (j := 1) tyX4 w (by decide) (by decide +kernel) rfl (by decide) rfl rfl rfl (tb_mem 188 (by decide +kernel) (by decide +kernel)) inX4 tyX4_ok nmX4 rfl rfl rfl (of_decide_eq_true (LA.all0 (P := fun t => decide (shp t = (13, 0))) (by decide +kernel) hH)) (show (t : Int) ≤ (((n + 2) : Nat) : Int) by omega) (fun w => ?_)
  show AW Γ l mX4_init d (b - 27) 21 [vR t] [] (mkw q (n + 2) ((t, 1, (t + 1 + 1)) :: (t, 0, (t + 1 + 0)) :: r)) K
  refine aw_aload_n (k' := 0) (by decide +kernel) rfl ?_
  refine aw_iconst (n := 0) (by decide +kernel) ?_
  refine pfX4_18 rfl (by decide +kernel) ⟨(of_decide_eq_true (LA.all0 (P := fun t => decide (shp t = (13, 0))) (by decide +kernel) hH)), (show (t : Int) ≤ (((n + 2) : Nat) : Int) by omega)⟩ ?_
  have w := w.pq (t := t) (j := 2) (v := 0) (show (t : Int) ≤ (((n + 2) : Nat) : Int) by omega)
  show AW Γ l mX4_init d (b - 27) 26 [vR t] [] (mkw ((t, 2, 0) :: q) (n + 2) ((t, 1, (t + 1 + 1)) :: (t, 0, (t + 1 + 0)) :: r)) K
  refine aw_aload_n (k' := 0) (by decide +kernel) rfl ?_
  refine aw_iconst (n := 0) (by decide +kernel) ?_
  refine pfX4_22 rfl (by decide +kernel) ⟨(of_decide_eq_true (LA.all0 (P := fun t => decide (shp t = (13, 0))) (by decide +kernel) hH)), (show (t : Int) ≤ (((n + 2) : Nat) : Int) by omega)⟩ ?_
  have w := w.pq (t := t) (j := 3) (v := 0) (show (t : Int) ≤ (((n + 2) : Nat) : Int) by omega)
  show AW Γ l mX4_init d (b - 27) 31 [vR t] [] (mkw ((t, 3, 0) :: (t, 2, 0) :: q) (n + 2) ((t, 1, (t + 1 + 1)) :: (t, 0, (t + 1 + 0)) :: r)) K
  refine aw_aload_n (k' := 0) (by decide +kernel) rfl ?_
  refine aw_iconst (n := 0) (by decide +kernel) ?_
  refine pfX4_25 rfl (by decide +kernel) ⟨(of_decide_eq_true (LA.all0 (P := fun t => decide (shp t = (13, 0))) (by decide +kernel) hH)), (show (t : Int) ≤ (((n + 2) : Nat) : Int) by omega)⟩ rfl rfl ?_
  have w := w.pq (t := t) (j := 4) (v := 0) (show (t : Int) ≤ (((n + 2) : Nat) : Int) by omega)
  show AW Γ l mX4_init d (b - 27) 36 [vR t] [] (mkw ((t, 4, 0) :: (t, 3, 0) :: (t, 2, 0) :: q) (n + 2) ((t, 1, (t + 1 + 1)) :: (t, 0, (t + 1 + 0)) :: r)) K
  refine aw_aload_n (k' := 0) (by decide +kernel) rfl ?_
  refine aw_iconst (n := 0) (by decide +kernel) ?_
  refine pfX4_29 rfl (by decide +kernel) ⟨(of_decide_eq_true (LA.all0 (P := fun t => decide (shp t = (13, 0))) (by decide +kernel) hH)), (show (t : Int) ≤ (((n + 2) : Nat) : Int) by omega)⟩ ?_
  have w := w.pq (t := t) (j := 5) (v := 0) (show (t : Int) ≤ (((n + 2) : Nat) : Int) by omega)
  show AW Γ l mX4_init d (b - 27) 41 [vR t] [] (mkw ((t, 5, 0) :: (t, 4, 0) :: (t, 3, 0) :: (t, 2, 0) :: q) (n + 2) ((t, 1, (t + 1 + 1)) :: (t, 0, (t + 1 + 0)) :: r)) K
  refine aw_aload_n (k' := 0) (by decide +kernel) rfl ?_
  refine aw_iconst (n := 0) (by decide +kernel) ?_
  refine pfX4_32 rfl (by decide +kernel) ⟨(of_decide_eq_true (LA.all0 (P := fun t => decide (shp t = (13, 0))) (by decide +kernel) hH)), (show (t : Int) ≤ (((n + 2) : Nat) : Int) by omega)⟩ ?_
  have w := w.pq (t := t) (j := 6) (v := 0) (show (t : Int) ≤ (((n + 2) : Nat) : Int) by omega)
  show AW Γ l mX4_init d (b - 27) 46 [vR t] [] (mkw ((t, 6, 0) :: (t, 5, 0) :: (t, 4, 0) :: (t, 3, 0) :: (t, 2, 0) :: q) (n + 2) ((t, 1, (t + 1 + 1)) :: (t, 0, (t + 1 + 0)) :: r)) K
  refine aw_aload_n (k' := 0) (by decide +kernel) rfl ?_
  refine aw_iconst (n := 0) (by decide +kernel) ?_
  refine pfX4_35 rfl (by decide +kernel) ⟨(of_decide_eq_true (LA.all0 (P := fun t => decide (shp t = (13, 0))) (by decide +kernel) hH)), (show (t : Int) ≤ (((n + 2) : Nat) : Int) by omega)⟩ ?_
  have w := w.pq (t := t) (j := 7) (v := 0) (show (t : Int) ≤ (((n + 2) : Nat) : Int) by omega)
  show AW Γ l mX4_init d (b - 27) 51 [vR t] [] (mkw ((t, 7, 0) :: (t, 6, 0) :: (t, 5, 0) :: (t, 4, 0) :: (t, 3, 0) :: (t, 2, 0) :: q) (n + 2) ((t, 1, (t + 1 + 1)) :: (t, 0, (t + 1 + 0)) :: r)) K
  exact aw_vret (by decide +kernel) rfl (k w)
def qX9 (q : List (Int × Int × Int)) : List (Int × Int × Int) := (2, 1, 0) :: q
def rX9 (r : List (Int × Int × Int)) : List (Int × Int × Int) := (2, 0, 3) :: r
set_option maxHeartbeats 4000000 in
set_option maxRecDepth 100000 in
theorem ct_X9 {Γ : Cfg} {l : Launch} {d b : Nat} {q r : List (Int × Int × Int)} {K : Ou → HP → Prop} (w : LW q 2 r) (hb : 25 ≤ b) (k : LW (qX9 q) 3 (rX9 r) → K (.inl vU) (mkw (qX9 q) 3 (rX9 r))) : Ct Γ l d b yX9_init mX9_init [vR 2] (mkw q 2 r) K := by
  refine Ct.enter (L := [vR 2]) rfl rfl rfl (by decide +kernel) (by simp [oneSlot]) (Nat.le_of_ble_eq_true rfl) rfl ?_
  refine aw_aload_n (k' := 0) (by decide +kernel) rfl ?_
  refine aw_objI (idx := 3) (by decide) (tb_mem 43 (by decide +kernel) (by decide +kernel)) (by simp [oneSlot]) (Nat.le_of_ble_eq_true rfl) (by decide +kernel) ?_
  refine aw_aload_n (k' := 0) (by decide +kernel) rfl ?_
  refine aw_sipush (n := 400) (by decide +kernel) (by decide +kernel) ?_
  refine aw_newa (at9 := .int) (ty := .int) (kd := 0) (n9 := 400) (k := 25) (b' := (b - 25)) (t := 3) (n := 2) (q := q) (r := r) 400 (by decide) (by decide) w (show shp 3 = (0, 400) by decide +kernel) rfl (by decide) rfl (tb_mem 53 (by decide +kernel) (by decide +kernel)) (by decide +kernel) (by decide +kernel) (Nat.le_of_ble_eq_true rfl) (by decide +kernel) ⟨Nat.le_of_ble_eq_true rfl, Nat.le_of_ble_eq_true rfl⟩ (by omega) (fun w => ?_)
  show AW Γ l mX9_init d (b - 25) 10 [vR 2] [vR 3, vR 2] (mkw q 3 r) K
  refine aw_putR (C := RX9) (T := TX9) (N := 2) (ci := 7) (idx := 9) (k := 0) (j := 0) tyX9 w (by decide) (by decide +kernel) rfl (by decide) rfl rfl rfl (tb_mem 44 (by decide +kernel) (by decide +kernel)) inX9 tyX9_ok nmX9 rfl rfl rfl (show shp 2 = (17, 0) by decide +kernel) (show (2 : Int) ≤ ((3 : Nat) : Int) by decide) (fun w => ?_)
  show AW Γ l mX9_init d (b - 25) 13 [vR 2] [] (mkw q 3 ((2, 0, 3) :: r)) K
  refine aw_aload_n (k' := 0) (by decide +kernel) rfl ?_
  refine aw_iconst (n := 0) (by decide +kernel) ?_
  refine pfX9_15 rfl (by decide +kernel) ⟨(show shp 2 = (17, 0) by decide +kernel), (show (2 : Int) ≤ ((3 : Nat) : Int) by decide)⟩ ?_
  have w := w.pq (t := 2) (j := 1) (v := 0) (show (2 : Int) ≤ ((3 : Nat) : Int) by decide)
  show AW Γ l mX9_init d (b - 25) 18 [vR 2] [] (mkw ((2, 1, 0) :: q) 3 ((2, 0, 3) :: r)) K
  exact aw_vret (by decide +kernel) rfl (k w)
def qX10 (q : List (Int × Int × Int)) : List (Int × Int × Int) := (4, 6, 0) :: (4, 5, 0) :: (4, 4, 1037) :: (4, 3, 0) :: q
def rX10 (r : List (Int × Int × Int)) : List (Int × Int × Int) := (4, 2, 7) :: (4, 1, 6) :: (4, 0, 5) :: r
set_option maxHeartbeats 4000000 in
set_option maxRecDepth 100000 in
theorem ct_X10 {Γ : Cfg} {l : Launch} {d b : Nat} {q r : List (Int × Int × Int)} {K : Ou → HP → Prop} (w : LW q 4 r) (hb : 78 ≤ b) (k : LW (qX10 q) 7 (rX10 r) → K (.inl vU) (mkw (qX10 q) 7 (rX10 r))) : Ct Γ l d b yX10_init mX10_init [vR 4] (mkw q 4 r) K := by
  refine Ct.enter (L := [vR 4]) rfl rfl rfl (by decide +kernel) (by simp [oneSlot]) (Nat.le_of_ble_eq_true rfl) rfl ?_
  refine aw_aload_n (k' := 0) (by decide +kernel) rfl ?_
  refine aw_objI (idx := 3) (by decide) (tb_mem 59 (by decide +kernel) (by decide +kernel)) (by simp [oneSlot]) (Nat.le_of_ble_eq_true rfl) (by decide +kernel) ?_
  refine aw_aload_n (k' := 0) (by decide +kernel) rfl ?_
  refine aw_sipush (n := 401) (by decide +kernel) (by decide +kernel) ?_
  refine aw_newq (C := "HalfOaths$Sign") (kd := 5) (n9 := 401) (k := 26) (b' := (b - 26)) (idx := 9) (t := 5) (n := 4) (q := q) (r := r) 401 (by decide) (by decide) w (show shp 5 = (5, 401) by decide +kernel) (Or.inr rfl) (tb_mem 60 (by decide +kernel) (by decide +kernel)) (by decide +kernel) (by decide +kernel) (Nat.le_of_ble_eq_true rfl) (by decide +kernel) ⟨Nat.le_of_ble_eq_true rfl, Nat.le_of_ble_eq_true rfl⟩ (by omega) (fun w => ?_)
  show AW Γ l mX10_init d (b - 26) 11 [vR 4] [vR 5, vR 4] (mkw q 5 r) K
  refine aw_putR (C := RX10) (T := TX10) (N := 7) (ci := 8) (idx := 11) (k := 0) (j := 0) tyX10 w (by decide) (by decide +kernel) rfl (by decide) rfl rfl rfl (tb_mem 64 (by decide +kernel) (by decide +kernel)) inX10 tyX10_ok nmX10 rfl rfl rfl (show shp 4 = (18, 0) by decide +kernel) (show (4 : Int) ≤ ((5 : Nat) : Int) by decide) (fun w => ?_)
  show AW Γ l mX10_init d (b - 26) 14 [vR 4] [] (mkw q 5 ((4, 0, 5) :: r)) K
  refine aw_aload_n (k' := 0) (by decide +kernel) rfl ?_
  refine aw_sipush (n := 401) (by decide +kernel) (by decide +kernel) ?_
  refine aw_newa (at9 := .int) (ty := .int) (kd := 0) (n9 := 401) (k := 26) (b' := (b - 52)) (t := 6) (n := 5) (q := q) (r := (4, 0, 5) :: r) 401 (by decide) (by decide) w (show shp 6 = (0, 401) by decide +kernel) rfl (by decide) rfl (tb_mem 53 (by decide +kernel) (by decide +kernel)) (by decide +kernel) (by decide +kernel) (Nat.le_of_ble_eq_true rfl) (by decide +kernel) ⟨Nat.le_of_ble_eq_true rfl, Nat.le_of_ble_eq_true rfl⟩ (by omega) (fun w => ?_)
  show AW Γ l mX10_init d (b - 52) 20 [vR 4] [vR 6, vR 4] (mkw q 6 ((4, 0, 5) :: r)) K
  refine aw_putR (C := RX10) (T := TX10) (N := 7) (ci := 8) (idx := 17) (k := 1) (j := 1) tyX10 w (by decide) (by decide +kernel) rfl (by decide) rfl rfl rfl (tb_mem 65 (by decide +kernel) (by decide +kernel)) inX10 tyX10_ok nmX10 rfl rfl rfl (show shp 4 = (18, 0) by decide +kernel) (show (4 : Int) ≤ ((6 : Nat) : Int) by decide) (fun w => ?_)
  show AW Γ l mX10_init d (b - 52) 23 [vR 4] [] (mkw q 6 ((4, 1, 6) :: (4, 0, 5) :: r)) K
  refine aw_aload_n (k' := 0) (by decide +kernel) rfl ?_
  refine aw_sipush (n := 401) (by decide +kernel) (by decide +kernel) ?_
  refine aw_newa (at9 := .int) (ty := .int) (kd := 0) (n9 := 401) (k := 26) (b' := (b - 78)) (t := 7) (n := 6) (q := q) (r := (4, 1, 6) :: (4, 0, 5) :: r) 401 (by decide) (by decide) w (show shp 7 = (0, 401) by decide +kernel) rfl (by decide) rfl (tb_mem 53 (by decide +kernel) (by decide +kernel)) (by decide +kernel) (by decide +kernel) (Nat.le_of_ble_eq_true rfl) (by decide +kernel) ⟨Nat.le_of_ble_eq_true rfl, Nat.le_of_ble_eq_true rfl⟩ (by omega) (fun w => ?_)
  show AW Γ l mX10_init d (b - 78) 29 [vR 4] [vR 7, vR 4] (mkw q 7 ((4, 1, 6) :: (4, 0, 5) :: r)) K
  refine aw_putR (C := RX10) (T := TX10) (N := 7) (ci := 8) (idx := 21) (k := 2) (j := 2) tyX10 w (by decide) (by decide +kernel) rfl (by decide) rfl rfl rfl (tb_mem 66 (by decide +kernel) (by decide +kernel)) inX10 tyX10_ok nmX10 rfl rfl rfl (show shp 4 = (18, 0) by decide +kernel) (show (4 : Int) ≤ ((7 : Nat) : Int) by decide) (fun w => ?_)
  show AW Γ l mX10_init d (b - 78) 32 [vR 4] [] (mkw q 7 ((4, 2, 7) :: (4, 1, 6) :: (4, 0, 5) :: r)) K
  refine aw_aload_n (k' := 0) (by decide +kernel) rfl ?_
  refine aw_iconst (n := 0) (by decide +kernel) ?_
  refine pfX10_24 rfl (by decide +kernel) ⟨(show shp 4 = (18, 0) by decide +kernel), (show (4 : Int) ≤ ((7 : Nat) : Int) by decide)⟩ ?_
  have w := w.pq (t := 4) (j := 3) (v := 0) (show (4 : Int) ≤ ((7 : Nat) : Int) by decide)
  show AW Γ l mX10_init d (b - 78) 37 [vR 4] [] (mkw ((4, 3, 0) :: q) 7 ((4, 2, 7) :: (4, 1, 6) :: (4, 0, 5) :: r)) K
  refine aw_aload_n (k' := 0) (by decide +kernel) rfl ?_
  refine aw_sign' (idx := 28) (i := 37) (r := 1037) (by decide +kernel) (by decide) (by decide) (fun hown hts hnw => Or.inl (hts _ (tm1 62 (by decide +kernel) (by decide +kernel)))) ?_
  refine pfX10_32 rfl (by decide +kernel) ⟨(show shp 4 = (18, 0) by decide +kernel), (show (4 : Int) ≤ ((7 : Nat) : Int) by decide)⟩ ?_
  have w := w.pq (t := 4) (j := 4) (v := 1037) (show (4 : Int) ≤ ((7 : Nat) : Int) by decide)
  show AW Γ l mX10_init d (b - 78) 44 [vR 4] [] (mkw ((4, 4, 1037) :: (4, 3, 0) :: q) 7 ((4, 2, 7) :: (4, 1, 6) :: (4, 0, 5) :: r)) K
  refine aw_aload_n (k' := 0) (by decide +kernel) rfl ?_
  refine aw_iconst (n := 0) (by decide +kernel) ?_
  refine pfX10_35 rfl (by decide +kernel) ⟨(show shp 4 = (18, 0) by decide +kernel), (show (4 : Int) ≤ ((7 : Nat) : Int) by decide)⟩ ?_
  have w := w.pq (t := 4) (j := 5) (v := 0) (show (4 : Int) ≤ ((7 : Nat) : Int) by decide)
  show AW Γ l mX10_init d (b - 78) 49 [vR 4] [] (mkw ((4, 5, 0) :: (4, 4, 1037) :: (4, 3, 0) :: q) 7 ((4, 2, 7) :: (4, 1, 6) :: (4, 0, 5) :: r)) K
  refine aw_aload_n (k' := 0) (by decide +kernel) rfl ?_
  refine aw_iconst (n := 0) (by decide +kernel) ?_
  refine pfX10_38 rfl (by decide +kernel) ⟨(show shp 4 = (18, 0) by decide +kernel), (show (4 : Int) ≤ ((7 : Nat) : Int) by decide)⟩ ?_
  have w := w.pq (t := 4) (j := 6) (v := 0) (show (4 : Int) ≤ ((7 : Nat) : Int) by decide)
  show AW Γ l mX10_init d (b - 78) 54 [vR 4] [] (mkw ((4, 6, 0) :: (4, 5, 0) :: (4, 4, 1037) :: (4, 3, 0) :: q) 7 ((4, 2, 7) :: (4, 1, 6) :: (4, 0, 5) :: r)) K
  exact aw_vret (by decide +kernel) rfl (k w)
def qX7 (q : List (Int × Int × Int)) : List (Int × Int × Int) := q
def rX7 (r : List (Int × Int × Int)) : List (Int × Int × Int) := (159, 0, 158) :: (158, 1, 159) :: (158, 0, 157) :: (157, 1, 158) :: (157, 0, 154) :: (154, 1, 157) :: (153, 3, 156) :: (153, 2, 155) :: (153, 1, 154) :: (153, 0, 35) :: r
set_option maxHeartbeats 4000000 in
set_option maxRecDepth 100000 in
theorem ct_X7 {Γ : Cfg} {l : Launch} {d b : Nat} {q r : List (Int × Int × Int)} {K : Ou → HP → Prop} (w : LW q 153 r) (hb : 6 ≤ b) (k : LW (qX7 q) 159 (rX7 r) → K (.inl vU) (mkw (qX7 q) 159 (rX7 r))) : Ct Γ l (d + 1) b yX7_init mX7_init [vR 153, vR 35] (mkw q 153 r) K := by
  refine Ct.enter (L := [vR 153, vR 35, vU, vU, vU]) rfl rfl rfl (by decide +kernel) (by simp [oneSlot]) (Nat.le_of_ble_eq_true rfl) rfl ?_
  refine aw_aload_n (k' := 0) (by decide +kernel) rfl ?_
  refine aw_objI (idx := 3) (by decide) (tb_mem 223 (by decide +kernel) (by decide +kernel)) (by simp [oneSlot]) (Nat.le_of_ble_eq_true rfl) (by decide +kernel) ?_
  refine aw_aload_n (k' := 0) (by decide +kernel) rfl ?_
  refine aw_aload_n (k' := 1) (by decide +kernel) rfl ?_
  refine aw_putR (C := RX7) (T := TX7) (N := 4) (ci := 6) (idx := 9) (k := 0) (j := 0) tyX7 w (by decide) (by decide +kernel) rfl (by decide) rfl rfl rfl (tb_mem 261 (by decide +kernel) (by decide +kernel)) inX7 tyX7_ok nmX7 rfl rfl rfl (show shp 153 = (16, 0) by decide +kernel) (show (153 : Int) ≤ ((153 : Nat) : Int) by decide) (fun w => ?_)
  show AW Γ l mX7_init (d + 1) b 9 [vR 153, vR 35, vU, vU, vU] [] (mkw q 153 ((153, 0, 35) :: r)) K
  refine aw_aload_n (k' := 0) (by decide +kernel) rfl ?_
  refine aw_new (C := RX0) (T := TX0) (N := 8) (ci := 0) (idx := 15) (k := 1) (b' := (b - 1)) (t := 154) (n := 153) (q := q) (r := (153, 0, 35) :: r) tyX0 (by decide) (by decide) w (show shp 154 = (10, 0) by decide +kernel) rfl (tb_mem 224 (by decide +kernel) (by decide +kernel)) (tb_mem 225 (by decide +kernel) (by decide +kernel)) (tb_mem 9 (by decide +kernel) (by decide +kernel)) inX0 tyX0_ok (by decide +kernel) (by decide +kernel) (by decide) (by omega) (fun w => ?_)
  show AW Γ l mX7_init (d + 1) (b - 1) 13 [vR 153, vR 35, vU, vU, vU] [vR 154, vR 153] (mkw q 154 ((153, 0, 35) :: r)) K
  refine aw_dup (by decide +kernel) trivial ?_
  refine aw_callIN (host := "HalfOaths") (idx := 17) (y := yX0_init) (M2 := mX0_init) (as := []) (S := [vR 154, vR 153]) (t := 154) (d2 := d) (b2 := 0) (b3 := (b - 1)) (by decide) cwX0_init (tn1 226 (by decide +kernel) (by decide +kernel)) imX0_init rfl rfl (by decide +kernel) rfl (Nat.le_refl _) (by omega) rfl rfl (by simp [oneSlot]) (Nat.le_of_ble_eq_true rfl) (ct_X0 (q := q) (r := ((153, 0, 35) :: r)) (n := 154) (by decide) w (fun w => ?_))
  show AW Γ l mX7_init (d + 1) (b - 1) 17 [vR 153, vR 35, vU, vU, vU] [vR 154, vR 153] (mkw q 154 ((153, 0, 35) :: r)) K
  refine aw_putR (C := RX7) (T := TX7) (N := 4) (ci := 6) (idx := 18) (k := 1) (j := 1) tyX7 w (by decide) (by decide +kernel) rfl (by decide) rfl rfl rfl (tb_mem 262 (by decide +kernel) (by decide +kernel)) inX7 tyX7_ok nmX7 rfl rfl rfl (show shp 153 = (16, 0) by decide +kernel) (show (153 : Int) ≤ ((154 : Nat) : Int) by decide) (fun w => ?_)
  show AW Γ l mX7_init (d + 1) (b - 1) 20 [vR 153, vR 35, vU, vU, vU] [] (mkw q 154 ((153, 1, 154) :: (153, 0, 35) :: r)) K
  refine aw_aload_n (k' := 0) (by decide +kernel) rfl ?_
  refine aw_bipush (n := 10) (by decide +kernel) (by decide +kernel) ?_
  refine aw_newa (at9 := .int) (ty := .int) (kd := 0) (n9 := 10) (k := 1) (b' := (b - 2)) (t := 155) (n := 154) (q := q) (r := (153, 1, 154) :: (153, 0, 35) :: r) 10 (by decide) (by decide) w (show shp 155 = (0, 10) by decide +kernel) rfl (by decide) rfl (tb_mem 53 (by decide +kernel) (by decide +kernel)) (by decide +kernel) (by decide +kernel) (Nat.le_of_ble_eq_true rfl) (by decide +kernel) ⟨Nat.le_of_ble_eq_true rfl, Nat.le_of_ble_eq_true rfl⟩ (by omega) (fun w => ?_)
  show AW Γ l mX7_init (d + 1) (b - 2) 25 [vR 153, vR 35, vU, vU, vU] [vR 155, vR 153] (mkw q 155 ((153, 1, 154) :: (153, 0, 35) :: r)) K
  refine aw_putR (C := RX7) (T := TX7) (N := 4) (ci := 6) (idx := 22) (k := 2) (j := 2) tyX7 w (by decide) (by decide +kernel) rfl (by decide) rfl rfl rfl (tb_mem 263 (by decide +kernel) (by decide +kernel)) inX7 tyX7_ok nmX7 rfl rfl rfl (show shp 153 = (16, 0) by decide +kernel) (show (153 : Int) ≤ ((155 : Nat) : Int) by decide) (fun w => ?_)
  show AW Γ l mX7_init (d + 1) (b - 2) 28 [vR 153, vR 35, vU, vU, vU] [] (mkw q 155 ((153, 2, 155) :: (153, 1, 154) :: (153, 0, 35) :: r)) K
  refine aw_aload_n (k' := 0) (by decide +kernel) rfl ?_
  refine aw_bipush (n := 8) (by decide +kernel) (by decide +kernel) ?_
  refine aw_newa (at9 := .int) (ty := .int) (kd := 0) (n9 := 8) (k := 1) (b' := (b - 3)) (t := 156) (n := 155) (q := q) (r := (153, 2, 155) :: (153, 1, 154) :: (153, 0, 35) :: r) 8 (by decide) (by decide) w (show shp 156 = (0, 8) by decide +kernel) rfl (by decide) rfl (tb_mem 53 (by decide +kernel) (by decide +kernel)) (by decide +kernel) (by decide +kernel) (Nat.le_of_ble_eq_true rfl) (by decide +kernel) ⟨Nat.le_of_ble_eq_true rfl, Nat.le_of_ble_eq_true rfl⟩ (by omega) (fun w => ?_)
  show AW Γ l mX7_init (d + 1) (b - 3) 33 [vR 153, vR 35, vU, vU, vU] [vR 156, vR 153] (mkw q 156 ((153, 2, 155) :: (153, 1, 154) :: (153, 0, 35) :: r)) K
  refine aw_putR (C := RX7) (T := TX7) (N := 4) (ci := 6) (idx := 26) (k := 3) (j := 3) tyX7 w (by decide) (by decide +kernel) rfl (by decide) rfl rfl rfl (tb_mem 264 (by decide +kernel) (by decide +kernel)) inX7 tyX7_ok nmX7 rfl rfl rfl (show shp 153 = (16, 0) by decide +kernel) (show (153 : Int) ≤ ((156 : Nat) : Int) by decide) (fun w => ?_)
  show AW Γ l mX7_init (d + 1) (b - 3) 36 [vR 153, vR 35, vU, vU, vU] [] (mkw q 156 ((153, 3, 156) :: (153, 2, 155) :: (153, 1, 154) :: (153, 0, 35) :: r)) K
  refine aw_aload_n (k' := 0) (by decide +kernel) rfl ?_
  refine gfX7_18 rfl (by decide +kernel) ⟨(show shp 153 = (16, 0) by decide +kernel), (show (153 : Int) ≤ ((156 : Nat) : Int) by decide)⟩ ?_
  refine AW.topR (show lkR ((153, 3, 156) :: (153, 2, 155) :: (153, 1, 154) :: (153, 0, 35) :: r) 153 1 = 154 from rfl) ?_
  refine aw_astore_n (k' := 2) (by decide +kernel) (by decide) ?_
  show AW Γ l mX7_init (d + 1) (b - 3) 41 [vR 153, vR 35, vR 154, vU, vU] [] (mkw q 156 ((153, 3, 156) :: (153, 2, 155) :: (153, 1, 154) :: (153, 0, 35) :: r)) K
  refine aw_iconst (n := 0) (by decide +kernel) ?_
  refine aw_istore_n (k' := 3) (by decide +kernel) (by decide) ?_
  show AW Γ l mX7_init (d + 1) (b - 3) 43 [vR 153, vR 35, vR 154, vI 0, vU] [] (mkw q 156 ((153, 3, 156) :: (153, 2, 155) :: (153, 1, 154) :: (153, 0, 35) :: r)) K
  refine aw_iload_n (k' := 3) (by decide +kernel) rfl ?_
  refine aw_iconst (n := 3) (by decide +kernel) ?_
  refine ax_icmp_ge (off := 33) (tgt := 78) (x' := 0) (y' := 3) (by decide +kernel) (by decide) (by decide +kernel) (by decide +kernel) (fun hc => absurd hc (by decide)) (fun hc => ?_)
  refine aw_new (C := RX0) (T := TX0) (N := 8) (ci := 0) (idx := 15) (k := 1) (b' := (b - 4)) (t := 157) (n := 156) (q := q) (r := (153, 3, 156) :: (153, 2, 155) :: (153, 1, 154) :: (153, 0, 35) :: r) tyX0 (by decide) (by decide) w (show shp 157 = (10, 0) by decide +kernel) rfl (tb_mem 224 (by decide +kernel) (by decide +kernel)) (tb_mem 225 (by decide +kernel) (by decide +kernel)) (tb_mem 9 (by decide +kernel) (by decide +kernel)) inX0 tyX0_ok (by decide +kernel) (by decide +kernel) (by decide) (by omega) (fun w => ?_)
  show AW Γ l mX7_init (d + 1) (b - 4) 51 [vR 153, vR 35, vR 154, vI 0, vU] [vR 157] (mkw q 157 ((153, 3, 156) :: (153, 2, 155) :: (153, 1, 154) :: (153, 0, 35) :: r)) K
  refine aw_dup (by decide +kernel) trivial ?_
  refine aw_callIN (host := "HalfOaths") (idx := 17) (y := yX0_init) (M2 := mX0_init) (as := []) (S := [vR 157]) (t := 157) (d2 := d) (b2 := 0) (b3 := (b - 4)) (by decide) cwX0_init (tn1 226 (by decide +kernel) (by decide +kernel)) imX0_init rfl rfl (by decide +kernel) rfl (Nat.le_refl _) (by omega) rfl rfl (by simp [oneSlot]) (Nat.le_of_ble_eq_true rfl) (ct_X0 (q := q) (r := ((153, 3, 156) :: (153, 2, 155) :: (153, 1, 154) :: (153, 0, 35) :: r)) (n := 157) (by decide) w (fun w => ?_))
  show AW Γ l mX7_init (d + 1) (b - 4) 55 [vR 153, vR 35, vR 154, vI 0, vU] [vR 157] (mkw q 157 ((153, 3, 156) :: (153, 2, 155) :: (153, 1, 154) :: (153, 0, 35) :: r)) K
  refine aw_astore (i := 4) (by decide +kernel) (by decide) ?_
  show AW Γ l mX7_init (d + 1) (b - 4) 57 [vR 153, vR 35, vR 154, vI 0, vR 157] [] (mkw q 157 ((153, 3, 156) :: (153, 2, 155) :: (153, 1, 154) :: (153, 0, 35) :: r)) K
  refine aw_aload_n (k' := 2) (by decide +kernel) rfl ?_
  refine aw_aload (i := 4) (by decide +kernel) rfl ?_
  refine aw_putRn (C := RX0) (T := TX0) (N := 8) (ci := 0) (idx := 29) (k := 1) (j := 1) tyX0 w (by decide) (by decide +kernel) rfl (by decide) rfl (fun hown hts hnw => Or.inr ⟨"HalfOaths", va_Nw.use rfl (hnw _ (tn1 231 (by decide +kernel) (by decide +kernel)))⟩) inX0 tyX0_ok nmX0 rfl rfl rfl (show shp 154 = (10, 0) by decide +kernel) (show (154 : Int) ≤ ((157 : Nat) : Int) by decide) (fun w => ?_)
  show AW Γ l mX7_init (d + 1) (b - 4) 63 [vR 153, vR 35, vR 154, vI 0, vR 157] [] (mkw q 157 ((154, 1, 157) :: (153, 3, 156) :: (153, 2, 155) :: (153, 1, 154) :: (153, 0, 35) :: r)) K
  refine aw_aload (i := 4) (by decide +kernel) rfl ?_
  refine aw_aload_n (k' := 2) (by decide +kernel) rfl ?_
  refine aw_putRn (C := RX0) (T := TX0) (N := 8) (ci := 0) (idx := 32) (k := 0) (j := 0) tyX0 w (by decide) (by decide +kernel) rfl (by decide) rfl (fun hown hts hnw => Or.inr ⟨"HalfOaths", va_Nw.use rfl (hnw _ (tn1 230 (by decide +kernel) (by decide +kernel)))⟩) inX0 tyX0_ok nmX0 rfl rfl rfl (show shp 157 = (10, 0) by decide +kernel) (show (157 : Int) ≤ ((157 : Nat) : Int) by decide) (fun w => ?_)
  show AW Γ l mX7_init (d + 1) (b - 4) 69 [vR 153, vR 35, vR 154, vI 0, vR 157] [] (mkw q 157 ((157, 0, 154) :: (154, 1, 157) :: (153, 3, 156) :: (153, 2, 155) :: (153, 1, 154) :: (153, 0, 35) :: r)) K
  refine aw_aload (i := 4) (by decide +kernel) rfl ?_
  refine aw_astore_n (k' := 2) (by decide +kernel) (by decide) ?_
  show AW Γ l mX7_init (d + 1) (b - 4) 72 [vR 153, vR 35, vR 157, vI 0, vR 157] [] (mkw q 157 ((157, 0, 154) :: (154, 1, 157) :: (153, 3, 156) :: (153, 2, 155) :: (153, 1, 154) :: (153, 0, 35) :: r)) K
  refine aw_iinc (i := 3) (n := 1) (by decide +kernel) rfl (by decide) ?_
  show AW Γ l mX7_init (d + 1) (b - 4) 75 [vR 153, vR 35, vR 157, vI 1, vR 157] [] (mkw q 157 ((157, 0, 154) :: (154, 1, 157) :: (153, 3, 156) :: (153, 2, 155) :: (153, 1, 154) :: (153, 0, 35) :: r)) K
  refine aw_goto (off := -32) (tgt := 43) (by decide +kernel) (by decide) ?_
  refine aw_iload_n (k' := 3) (by decide +kernel) rfl ?_
  refine aw_iconst (n := 3) (by decide +kernel) ?_
  refine ax_icmp_ge (off := 33) (tgt := 78) (x' := 1) (y' := 3) (by decide +kernel) (by decide) (by decide +kernel) (by decide +kernel) (fun hc => absurd hc (by decide)) (fun hc => ?_)
  refine aw_new (C := RX0) (T := TX0) (N := 8) (ci := 0) (idx := 15) (k := 1) (b' := (b - 5)) (t := 158) (n := 157) (q := q) (r := (157, 0, 154) :: (154, 1, 157) :: (153, 3, 156) :: (153, 2, 155) :: (153, 1, 154) :: (153, 0, 35) :: r) tyX0 (by decide) (by decide) w (show shp 158 = (10, 0) by decide +kernel) rfl (tb_mem 224 (by decide +kernel) (by decide +kernel)) (tb_mem 225 (by decide +kernel) (by decide +kernel)) (tb_mem 9 (by decide +kernel) (by decide +kernel)) inX0 tyX0_ok (by decide +kernel) (by decide +kernel) (by decide) (by omega) (fun w => ?_)
  show AW Γ l mX7_init (d + 1) (b - 5) 51 [vR 153, vR 35, vR 157, vI 1, vR 157] [vR 158] (mkw q 158 ((157, 0, 154) :: (154, 1, 157) :: (153, 3, 156) :: (153, 2, 155) :: (153, 1, 154) :: (153, 0, 35) :: r)) K
  refine aw_dup (by decide +kernel) trivial ?_
  refine aw_callIN (host := "HalfOaths") (idx := 17) (y := yX0_init) (M2 := mX0_init) (as := []) (S := [vR 158]) (t := 158) (d2 := d) (b2 := 0) (b3 := (b - 5)) (by decide) cwX0_init (tn1 226 (by decide +kernel) (by decide +kernel)) imX0_init rfl rfl (by decide +kernel) rfl (Nat.le_refl _) (by omega) rfl rfl (by simp [oneSlot]) (Nat.le_of_ble_eq_true rfl) (ct_X0 (q := q) (r := ((157, 0, 154) :: (154, 1, 157) :: (153, 3, 156) :: (153, 2, 155) :: (153, 1, 154) :: (153, 0, 35) :: r)) (n := 158) (by decide) w (fun w => ?_))
  show AW Γ l mX7_init (d + 1) (b - 5) 55 [vR 153, vR 35, vR 157, vI 1, vR 157] [vR 158] (mkw q 158 ((157, 0, 154) :: (154, 1, 157) :: (153, 3, 156) :: (153, 2, 155) :: (153, 1, 154) :: (153, 0, 35) :: r)) K
  refine aw_astore (i := 4) (by decide +kernel) (by decide) ?_
  show AW Γ l mX7_init (d + 1) (b - 5) 57 [vR 153, vR 35, vR 157, vI 1, vR 158] [] (mkw q 158 ((157, 0, 154) :: (154, 1, 157) :: (153, 3, 156) :: (153, 2, 155) :: (153, 1, 154) :: (153, 0, 35) :: r)) K
  refine aw_aload_n (k' := 2) (by decide +kernel) rfl ?_
  refine aw_aload (i := 4) (by decide +kernel) rfl ?_
  refine aw_putRn (C := RX0) (T := TX0) (N := 8) (ci := 0) (idx := 29) (k := 1) (j := 1) tyX0 w (by decide) (by decide +kernel) rfl (by decide) rfl (fun hown hts hnw => Or.inr ⟨"HalfOaths", va_Nw.use rfl (hnw _ (tn1 231 (by decide +kernel) (by decide +kernel)))⟩) inX0 tyX0_ok nmX0 rfl rfl rfl (show shp 157 = (10, 0) by decide +kernel) (show (157 : Int) ≤ ((158 : Nat) : Int) by decide) (fun w => ?_)
  show AW Γ l mX7_init (d + 1) (b - 5) 63 [vR 153, vR 35, vR 157, vI 1, vR 158] [] (mkw q 158 ((157, 1, 158) :: (157, 0, 154) :: (154, 1, 157) :: (153, 3, 156) :: (153, 2, 155) :: (153, 1, 154) :: (153, 0, 35) :: r)) K
  refine aw_aload (i := 4) (by decide +kernel) rfl ?_
  refine aw_aload_n (k' := 2) (by decide +kernel) rfl ?_
  refine aw_putRn (C := RX0) (T := TX0) (N := 8) (ci := 0) (idx := 32) (k := 0) (j := 0) tyX0 w (by decide) (by decide +kernel) rfl (by decide) rfl (fun hown hts hnw => Or.inr ⟨"HalfOaths", va_Nw.use rfl (hnw _ (tn1 230 (by decide +kernel) (by decide +kernel)))⟩) inX0 tyX0_ok nmX0 rfl rfl rfl (show shp 158 = (10, 0) by decide +kernel) (show (158 : Int) ≤ ((158 : Nat) : Int) by decide) (fun w => ?_)
  show AW Γ l mX7_init (d + 1) (b - 5) 69 [vR 153, vR 35, vR 157, vI 1, vR 158] [] (mkw q 158 ((158, 0, 157) :: (157, 1, 158) :: (157, 0, 154) :: (154, 1, 157) :: (153, 3, 156) :: (153, 2, 155) :: (153, 1, 154) :: (153, 0, 35) :: r)) K
  refine aw_aload (i := 4) (by decide +kernel) rfl ?_
  refine aw_astore_n (k' := 2) (by decide +kernel) (by decide) ?_
  show AW Γ l mX7_init (d + 1) (b - 5) 72 [vR 153, vR 35, vR 158, vI 1, vR 158] [] (mkw q 158 ((158, 0, 157) :: (157, 1, 158) :: (157, 0, 154) :: (154, 1, 157) :: (153, 3, 156) :: (153, 2, 155) :: (153, 1, 154) :: (153, 0, 35) :: r)) K
  refine aw_iinc (i := 3) (n := 1) (by decide +kernel) rfl (by decide) ?_
  show AW Γ l mX7_init (d + 1) (b - 5) 75 [vR 153, vR 35, vR 158, vI 2, vR 158] [] (mkw q 158 ((158, 0, 157) :: (157, 1, 158) :: (157, 0, 154) :: (154, 1, 157) :: (153, 3, 156) :: (153, 2, 155) :: (153, 1, 154) :: (153, 0, 35) :: r)) K
  refine aw_goto (off := -32) (tgt := 43) (by decide +kernel) (by decide) ?_
  refine aw_iload_n (k' := 3) (by decide +kernel) rfl ?_
  refine aw_iconst (n := 3) (by decide +kernel) ?_
  refine ax_icmp_ge (off := 33) (tgt := 78) (x' := 2) (y' := 3) (by decide +kernel) (by decide) (by decide +kernel) (by decide +kernel) (fun hc => absurd hc (by decide)) (fun hc => ?_)
  refine aw_new (C := RX0) (T := TX0) (N := 8) (ci := 0) (idx := 15) (k := 1) (b' := (b - 6)) (t := 159) (n := 158) (q := q) (r := (158, 0, 157) :: (157, 1, 158) :: (157, 0, 154) :: (154, 1, 157) :: (153, 3, 156) :: (153, 2, 155) :: (153, 1, 154) :: (153, 0, 35) :: r) tyX0 (by decide) (by decide) w (show shp 159 = (10, 0) by decide +kernel) rfl (tb_mem 224 (by decide +kernel) (by decide +kernel)) (tb_mem 225 (by decide +kernel) (by decide +kernel)) (tb_mem 9 (by decide +kernel) (by decide +kernel)) inX0 tyX0_ok (by decide +kernel) (by decide +kernel) (by decide) (by omega) (fun w => ?_)
  show AW Γ l mX7_init (d + 1) (b - 6) 51 [vR 153, vR 35, vR 158, vI 2, vR 158] [vR 159] (mkw q 159 ((158, 0, 157) :: (157, 1, 158) :: (157, 0, 154) :: (154, 1, 157) :: (153, 3, 156) :: (153, 2, 155) :: (153, 1, 154) :: (153, 0, 35) :: r)) K
  refine aw_dup (by decide +kernel) trivial ?_
  refine aw_callIN (host := "HalfOaths") (idx := 17) (y := yX0_init) (M2 := mX0_init) (as := []) (S := [vR 159]) (t := 159) (d2 := d) (b2 := 0) (b3 := (b - 6)) (by decide) cwX0_init (tn1 226 (by decide +kernel) (by decide +kernel)) imX0_init rfl rfl (by decide +kernel) rfl (Nat.le_refl _) (by omega) rfl rfl (by simp [oneSlot]) (Nat.le_of_ble_eq_true rfl) (ct_X0 (q := q) (r := ((158, 0, 157) :: (157, 1, 158) :: (157, 0, 154) :: (154, 1, 157) :: (153, 3, 156) :: (153, 2, 155) :: (153, 1, 154) :: (153, 0, 35) :: r)) (n := 159) (by decide) w (fun w => ?_))
  show AW Γ l mX7_init (d + 1) (b - 6) 55 [vR 153, vR 35, vR 158, vI 2, vR 158] [vR 159] (mkw q 159 ((158, 0, 157) :: (157, 1, 158) :: (157, 0, 154) :: (154, 1, 157) :: (153, 3, 156) :: (153, 2, 155) :: (153, 1, 154) :: (153, 0, 35) :: r)) K
  refine aw_astore (i := 4) (by decide +kernel) (by decide) ?_
  show AW Γ l mX7_init (d + 1) (b - 6) 57 [vR 153, vR 35, vR 158, vI 2, vR 159] [] (mkw q 159 ((158, 0, 157) :: (157, 1, 158) :: (157, 0, 154) :: (154, 1, 157) :: (153, 3, 156) :: (153, 2, 155) :: (153, 1, 154) :: (153, 0, 35) :: r)) K
  refine aw_aload_n (k' := 2) (by decide +kernel) rfl ?_
  refine aw_aload (i := 4) (by decide +kernel) rfl ?_
  refine aw_putRn (C := RX0) (T := TX0) (N := 8) (ci := 0) (idx := 29) (k := 1) (j := 1) tyX0 w (by decide) (by decide +kernel) rfl (by decide) rfl (fun hown hts hnw => Or.inr ⟨"HalfOaths", va_Nw.use rfl (hnw _ (tn1 231 (by decide +kernel) (by decide +kernel)))⟩) inX0 tyX0_ok nmX0 rfl rfl rfl (show shp 158 = (10, 0) by decide +kernel) (show (158 : Int) ≤ ((159 : Nat) : Int) by decide) (fun w => ?_)
  show AW Γ l mX7_init (d + 1) (b - 6) 63 [vR 153, vR 35, vR 158, vI 2, vR 159] [] (mkw q 159 ((158, 1, 159) :: (158, 0, 157) :: (157, 1, 158) :: (157, 0, 154) :: (154, 1, 157) :: (153, 3, 156) :: (153, 2, 155) :: (153, 1, 154) :: (153, 0, 35) :: r)) K
  refine aw_aload (i := 4) (by decide +kernel) rfl ?_
  refine aw_aload_n (k' := 2) (by decide +kernel) rfl ?_
  refine aw_putRn (C := RX0) (T := TX0) (N := 8) (ci := 0) (idx := 32) (k := 0) (j := 0) tyX0 w (by decide) (by decide +kernel) rfl (by decide) rfl (fun hown hts hnw => Or.inr ⟨"HalfOaths", va_Nw.use rfl (hnw _ (tn1 230 (by decide +kernel) (by decide +kernel)))⟩) inX0 tyX0_ok nmX0 rfl rfl rfl (show shp 159 = (10, 0) by decide +kernel) (show (159 : Int) ≤ ((159 : Nat) : Int) by decide) (fun w => ?_)
  show AW Γ l mX7_init (d + 1) (b - 6) 69 [vR 153, vR 35, vR 158, vI 2, vR 159] [] (mkw q 159 ((159, 0, 158) :: (158, 1, 159) :: (158, 0, 157) :: (157, 1, 158) :: (157, 0, 154) :: (154, 1, 157) :: (153, 3, 156) :: (153, 2, 155) :: (153, 1, 154) :: (153, 0, 35) :: r)) K
  refine aw_aload (i := 4) (by decide +kernel) rfl ?_
  refine aw_astore_n (k' := 2) (by decide +kernel) (by decide) ?_
  show AW Γ l mX7_init (d + 1) (b - 6) 72 [vR 153, vR 35, vR 159, vI 2, vR 159] [] (mkw q 159 ((159, 0, 158) :: (158, 1, 159) :: (158, 0, 157) :: (157, 1, 158) :: (157, 0, 154) :: (154, 1, 157) :: (153, 3, 156) :: (153, 2, 155) :: (153, 1, 154) :: (153, 0, 35) :: r)) K
  refine aw_iinc (i := 3) (n := 1) (by decide +kernel) rfl (by decide) ?_
  show AW Γ l mX7_init (d + 1) (b - 6) 75 [vR 153, vR 35, vR 159, vI 3, vR 159] [] (mkw q 159 ((159, 0, 158) :: (158, 1, 159) :: (158, 0, 157) :: (157, 1, 158) :: (157, 0, 154) :: (154, 1, 157) :: (153, 3, 156) :: (153, 2, 155) :: (153, 1, 154) :: (153, 0, 35) :: r)) K
  refine aw_goto (off := -32) (tgt := 43) (by decide +kernel) (by decide) ?_
  refine aw_iload_n (k' := 3) (by decide +kernel) rfl ?_
  refine aw_iconst (n := 3) (by decide +kernel) ?_
  refine ax_icmp_ge (off := 33) (tgt := 78) (x' := 3) (y' := 3) (by decide +kernel) (by decide) (by decide +kernel) (by decide +kernel) (fun hc => ?_) (fun hc => absurd (by decide) hc)
  exact aw_vret (by decide +kernel) rfl (k w)
def qX1 (q : List (Int × Int × Int)) : List (Int × Int × Int) := q
def rX1 (r : List (Int × Int × Int)) : List (Int × Int × Int) := (160, 0, 153) :: r
set_option maxHeartbeats 4000000 in
set_option maxRecDepth 100000 in
theorem ct_X1 {Γ : Cfg} {l : Launch} {d b : Nat} {q r : List (Int × Int × Int)} {K : Ou → HP → Prop} (w : LW q 160 r) (hb : 0 ≤ b) (k : LW (qX1 q) 160 (rX1 r) → K (.inl vU) (mkw (qX1 q) 160 (rX1 r))) : Ct Γ l d b yX1_init mX1_init [vR 160, vR 153] (mkw q 160 r) K := by
  refine Ct.enter (L := [vR 160, vR 153]) rfl rfl rfl (by decide +kernel) (by simp [oneSlot]) (Nat.le_of_ble_eq_true rfl) rfl ?_
  refine aw_aload_n (k' := 0) (by decide +kernel) rfl ?_
  refine aw_objI (idx := 3) (by decide) (tb_mem 281 (by decide +kernel) (by decide +kernel)) (by simp [oneSlot]) (Nat.le_of_ble_eq_true rfl) (by decide +kernel) ?_
  refine aw_aload_n (k' := 0) (by decide +kernel) rfl ?_
  refine aw_aload_n (k' := 1) (by decide +kernel) rfl ?_
  refine aw_putR (C := RX1) (T := TX1) (N := 1) (ci := 1) (idx := 9) (k := 0) (j := 0) tyX1 w (by decide) (by decide +kernel) rfl (by decide) rfl rfl rfl (tb_mem 282 (by decide +kernel) (by decide +kernel)) inX1 tyX1_ok nmX1 rfl rfl rfl (show shp 160 = (11, 0) by decide +kernel) (show (160 : Int) ≤ ((160 : Nat) : Int) by decide) (fun w => ?_)
  show AW Γ l mX1_init d b 9 [vR 160, vR 153] [] (mkw q 160 ((160, 0, 153) :: r)) K
  exact aw_vret (by decide +kernel) rfl (k w)
def qX5 (q : List (Int × Int × Int)) : List (Int × Int × Int) := (161, 8, -1) :: (161, 7, 0) :: (161, 6, -1) :: q
def rX5 (r : List (Int × Int × Int)) : List (Int × Int × Int) := (161, 5, 166) :: (161, 4, 165) :: (161, 3, 164) :: (161, 2, 163) :: (161, 1, 162) :: (161, 0, 153) :: r
set_option maxHeartbeats 4000000 in
set_option maxRecDepth 100000 in
theorem ct_X5 {Γ : Cfg} {l : Launch} {d b : Nat} {q r : List (Int × Int × Int)} {K : Ou → HP → Prop} (w : LW q 161 r) (hb : 5 ≤ b) (k : LW (qX5 q) 166 (rX5 r) → K (.inl vU) (mkw (qX5 q) 166 (rX5 r))) : Ct Γ l d b yX5_init mX5_init [vR 161, vR 153] (mkw q 161 r) K := by
  refine Ct.enter (L := [vR 161, vR 153]) rfl rfl rfl (by decide +kernel) (by simp [oneSlot]) (Nat.le_of_ble_eq_true rfl) rfl ?_
  refine aw_aload_n (k' := 0) (by decide +kernel) rfl ?_
  refine aw_objI (idx := 3) (by decide) (tb_mem 291 (by decide +kernel) (by decide +kernel)) (by simp [oneSlot]) (Nat.le_of_ble_eq_true rfl) (by decide +kernel) ?_
  refine aw_aload_n (k' := 0) (by decide +kernel) rfl ?_
  refine aw_aload_n (k' := 1) (by decide +kernel) rfl ?_
  refine aw_putR (C := RX5) (T := TX5) (N := 9) (ci := 4) (idx := 9) (k := 0) (j := 0) tyX5 w (by decide) (by decide +kernel) rfl (by decide) rfl rfl rfl (tb_mem 292 (by decide +kernel) (by decide +kernel)) inX5 tyX5_ok nmX5 rfl rfl rfl (show shp 161 = (14, 0) by decide +kernel) (show (161 : Int) ≤ ((161 : Nat) : Int) by decide) (fun w => ?_)
  show AW Γ l mX5_init d b 9 [vR 161, vR 153] [] (mkw q 161 ((161, 0, 153) :: r)) K
  refine aw_aload_n (k' := 0) (by decide +kernel) rfl ?_
  refine aw_bipush (n := 6) (by decide +kernel) (by decide +kernel) ?_
  refine aw_newa (at9 := .int) (ty := .int) (kd := 0) (n9 := 6) (k := 1) (b' := (b - 1)) (t := 162) (n := 161) (q := q) (r := (161, 0, 153) :: r) 6 (by decide) (by decide) w (show shp 162 = (0, 6) by decide +kernel) rfl (by decide) rfl (tb_mem 53 (by decide +kernel) (by decide +kernel)) (by decide +kernel) (by decide +kernel) (Nat.le_of_ble_eq_true rfl) (by decide +kernel) ⟨Nat.le_of_ble_eq_true rfl, Nat.le_of_ble_eq_true rfl⟩ (by omega) (fun w => ?_)
  show AW Γ l mX5_init d (b - 1) 14 [vR 161, vR 153] [vR 162, vR 161] (mkw q 162 ((161, 0, 153) :: r)) K
  refine aw_putR (C := RX5) (T := TX5) (N := 9) (ci := 4) (idx := 15) (k := 1) (j := 1) tyX5 w (by decide) (by decide +kernel) rfl (by decide) rfl rfl rfl (tb_mem 293 (by decide +kernel) (by decide +kernel)) inX5 tyX5_ok nmX5 rfl rfl rfl (show shp 161 = (14, 0) by decide +kernel) (show (161 : Int) ≤ ((162 : Nat) : Int) by decide) (fun w => ?_)
  show AW Γ l mX5_init d (b - 1) 17 [vR 161, vR 153] [] (mkw q 162 ((161, 1, 162) :: (161, 0, 153) :: r)) K
  refine aw_aload_n (k' := 0) (by decide +kernel) rfl ?_
  refine aw_bipush (n := 6) (by decide +kernel) (by decide +kernel) ?_
  refine aw_newa (at9 := .int) (ty := .int) (kd := 0) (n9 := 6) (k := 1) (b' := (b - 2)) (t := 163) (n := 162) (q := q) (r := (161, 1, 162) :: (161, 0, 153) :: r) 6 (by decide) (by decide) w (show shp 163 = (0, 6) by decide +kernel) rfl (by decide) rfl (tb_mem 53 (by decide +kernel) (by decide +kernel)) (by decide +kernel) (by decide +kernel) (Nat.le_of_ble_eq_true rfl) (by decide +kernel) ⟨Nat.le_of_ble_eq_true rfl, Nat.le_of_ble_eq_true rfl⟩ (by omega) (fun w => ?_)
  show AW Γ l mX5_init d (b - 2) 22 [vR 161, vR 153] [vR 163, vR 161] (mkw q 163 ((161, 1, 162) :: (161, 0, 153) :: r)) K
  refine aw_putR (C := RX5) (T := TX5) (N := 9) (ci := 4) (idx := 19) (k := 2) (j := 2) tyX5 w (by decide) (by decide +kernel) rfl (by decide) rfl rfl rfl (tb_mem 294 (by decide +kernel) (by decide +kernel)) inX5 tyX5_ok nmX5 rfl rfl rfl (show shp 161 = (14, 0) by decide +kernel) (show (161 : Int) ≤ ((163 : Nat) : Int) by decide) (fun w => ?_)
  show AW Γ l mX5_init d (b - 2) 25 [vR 161, vR 153] [] (mkw q 163 ((161, 2, 163) :: (161, 1, 162) :: (161, 0, 153) :: r)) K
  refine aw_aload_n (k' := 0) (by decide +kernel) rfl ?_
  refine aw_bipush (n := 12) (by decide +kernel) (by decide +kernel) ?_
  refine aw_newa (at9 := .int) (ty := .int) (kd := 0) (n9 := 12) (k := 1) (b' := (b - 3)) (t := 164) (n := 163) (q := q) (r := (161, 2, 163) :: (161, 1, 162) :: (161, 0, 153) :: r) 12 (by decide) (by decide) w (show shp 164 = (0, 12) by decide +kernel) rfl (by decide) rfl (tb_mem 53 (by decide +kernel) (by decide +kernel)) (by decide +kernel) (by decide +kernel) (Nat.le_of_ble_eq_true rfl) (by decide +kernel) ⟨Nat.le_of_ble_eq_true rfl, Nat.le_of_ble_eq_true rfl⟩ (by omega) (fun w => ?_)
  show AW Γ l mX5_init d (b - 3) 30 [vR 161, vR 153] [vR 164, vR 161] (mkw q 164 ((161, 2, 163) :: (161, 1, 162) :: (161, 0, 153) :: r)) K
  refine aw_putR (C := RX5) (T := TX5) (N := 9) (ci := 4) (idx := 22) (k := 3) (j := 3) tyX5 w (by decide) (by decide +kernel) rfl (by decide) rfl rfl rfl (tb_mem 295 (by decide +kernel) (by decide +kernel)) inX5 tyX5_ok nmX5 rfl rfl rfl (show shp 161 = (14, 0) by decide +kernel) (show (161 : Int) ≤ ((164 : Nat) : Int) by decide) (fun w => ?_)
  show AW Γ l mX5_init d (b - 3) 33 [vR 161, vR 153] [] (mkw q 164 ((161, 3, 164) :: (161, 2, 163) :: (161, 1, 162) :: (161, 0, 153) :: r)) K
  refine aw_aload_n (k' := 0) (by decide +kernel) rfl ?_
  refine aw_bipush (n := 6) (by decide +kernel) (by decide +kernel) ?_
  refine aw_newa (at9 := .int) (ty := .int) (kd := 0) (n9 := 6) (k := 1) (b' := (b - 4)) (t := 165) (n := 164) (q := q) (r := (161, 3, 164) :: (161, 2, 163) :: (161, 1, 162) :: (161, 0, 153) :: r) 6 (by decide) (by decide) w (show shp 165 = (0, 6) by decide +kernel) rfl (by decide) rfl (tb_mem 53 (by decide +kernel) (by decide +kernel)) (by decide +kernel) (by decide +kernel) (Nat.le_of_ble_eq_true rfl) (by decide +kernel) ⟨Nat.le_of_ble_eq_true rfl, Nat.le_of_ble_eq_true rfl⟩ (by omega) (fun w => ?_)
  show AW Γ l mX5_init d (b - 4) 38 [vR 161, vR 153] [vR 165, vR 161] (mkw q 165 ((161, 3, 164) :: (161, 2, 163) :: (161, 1, 162) :: (161, 0, 153) :: r)) K
  refine aw_putR (C := RX5) (T := TX5) (N := 9) (ci := 4) (idx := 25) (k := 4) (j := 4) tyX5 w (by decide) (by decide +kernel) rfl (by decide) rfl rfl rfl (tb_mem 296 (by decide +kernel) (by decide +kernel)) inX5 tyX5_ok nmX5 rfl rfl rfl (show shp 161 = (14, 0) by decide +kernel) (show (161 : Int) ≤ ((165 : Nat) : Int) by decide) (fun w => ?_)
  show AW Γ l mX5_init d (b - 4) 41 [vR 161, vR 153] [] (mkw q 165 ((161, 4, 165) :: (161, 3, 164) :: (161, 2, 163) :: (161, 1, 162) :: (161, 0, 153) :: r)) K
  refine aw_aload_n (k' := 0) (by decide +kernel) rfl ?_
  refine aw_bipush (n := 6) (by decide +kernel) (by decide +kernel) ?_
  refine aw_newa (at9 := .int) (ty := .int) (kd := 0) (n9 := 6) (k := 1) (b' := (b - 5)) (t := 166) (n := 165) (q := q) (r := (161, 4, 165) :: (161, 3, 164) :: (161, 2, 163) :: (161, 1, 162) :: (161, 0, 153) :: r) 6 (by decide) (by decide) w (show shp 166 = (0, 6) by decide +kernel) rfl (by decide) rfl (tb_mem 53 (by decide +kernel) (by decide +kernel)) (by decide +kernel) (by decide +kernel) (Nat.le_of_ble_eq_true rfl) (by decide +kernel) ⟨Nat.le_of_ble_eq_true rfl, Nat.le_of_ble_eq_true rfl⟩ (by omega) (fun w => ?_)
  show AW Γ l mX5_init d (b - 5) 46 [vR 161, vR 153] [vR 166, vR 161] (mkw q 166 ((161, 4, 165) :: (161, 3, 164) :: (161, 2, 163) :: (161, 1, 162) :: (161, 0, 153) :: r)) K
  refine aw_putR (C := RX5) (T := TX5) (N := 9) (ci := 4) (idx := 28) (k := 5) (j := 5) tyX5 w (by decide) (by decide +kernel) rfl (by decide) rfl rfl rfl (tb_mem 297 (by decide +kernel) (by decide +kernel)) inX5 tyX5_ok nmX5 rfl rfl rfl (show shp 161 = (14, 0) by decide +kernel) (show (161 : Int) ≤ ((166 : Nat) : Int) by decide) (fun w => ?_)
  show AW Γ l mX5_init d (b - 5) 49 [vR 161, vR 153] [] (mkw q 166 ((161, 5, 166) :: (161, 4, 165) :: (161, 3, 164) :: (161, 2, 163) :: (161, 1, 162) :: (161, 0, 153) :: r)) K
  refine aw_aload_n (k' := 0) (by decide +kernel) rfl ?_
  refine aw_iconst (n := -1) (by decide +kernel) ?_
  refine pfX5_31 rfl (by decide +kernel) ⟨(show shp 161 = (14, 0) by decide +kernel), (show (161 : Int) ≤ ((166 : Nat) : Int) by decide)⟩ ?_
  have w := w.pq (t := 161) (j := 6) (v := -1) (show (161 : Int) ≤ ((166 : Nat) : Int) by decide)
  show AW Γ l mX5_init d (b - 5) 54 [vR 161, vR 153] [] (mkw ((161, 6, -1) :: q) 166 ((161, 5, 166) :: (161, 4, 165) :: (161, 3, 164) :: (161, 2, 163) :: (161, 1, 162) :: (161, 0, 153) :: r)) K
  refine aw_aload_n (k' := 0) (by decide +kernel) rfl ?_
  refine aw_iconst (n := 0) (by decide +kernel) ?_
  refine pfX5_35 rfl (by decide +kernel) ⟨(show shp 161 = (14, 0) by decide +kernel), (show (161 : Int) ≤ ((166 : Nat) : Int) by decide)⟩ ?_
  have w := w.pq (t := 161) (j := 7) (v := 0) (show (161 : Int) ≤ ((166 : Nat) : Int) by decide)
  show AW Γ l mX5_init d (b - 5) 59 [vR 161, vR 153] [] (mkw ((161, 7, 0) :: (161, 6, -1) :: q) 166 ((161, 5, 166) :: (161, 4, 165) :: (161, 3, 164) :: (161, 2, 163) :: (161, 1, 162) :: (161, 0, 153) :: r)) K
  refine aw_aload_n (k' := 0) (by decide +kernel) rfl ?_
  refine aw_iconst (n := -1) (by decide +kernel) ?_
  refine pfX5_38 rfl (by decide +kernel) ⟨(show shp 161 = (14, 0) by decide +kernel), (show (161 : Int) ≤ ((166 : Nat) : Int) by decide)⟩ ?_
  have w := w.pq (t := 161) (j := 8) (v := -1) (show (161 : Int) ≤ ((166 : Nat) : Int) by decide)
  show AW Γ l mX5_init d (b - 5) 64 [vR 161, vR 153] [] (mkw ((161, 8, -1) :: (161, 7, 0) :: (161, 6, -1) :: q) 166 ((161, 5, 166) :: (161, 4, 165) :: (161, 3, 164) :: (161, 2, 163) :: (161, 1, 162) :: (161, 0, 153) :: r)) K
  exact aw_vret (by decide +kernel) rfl (k w)
def qX6 (q : List (Int × Int × Int)) : List (Int × Int × Int) := (167, 2, -1) :: q
def rX6 (r : List (Int × Int × Int)) : List (Int × Int × Int) := (167, 1, 169) :: (167, 0, 168) :: r
set_option maxHeartbeats 4000000 in
set_option maxRecDepth 100000 in
theorem ct_X6 {Γ : Cfg} {l : Launch} {d b : Nat} {q r : List (Int × Int × Int)} {K : Ou → HP → Prop} (w : LW q 167 r) (hb : 2 ≤ b) (k : LW (qX6 q) 169 (rX6 r) → K (.inl vU) (mkw (qX6 q) 169 (rX6 r))) : Ct Γ l d b yX6_init mX6_init [vR 167] (mkw q 167 r) K := by
  refine Ct.enter (L := [vR 167]) rfl rfl rfl (by decide +kernel) (by simp [oneSlot]) (Nat.le_of_ble_eq_true rfl) rfl ?_
  refine aw_aload_n (k' := 0) (by decide +kernel) rfl ?_
  refine aw_objI (idx := 3) (by decide) (tb_mem 328 (by decide +kernel) (by decide +kernel)) (by simp [oneSlot]) (Nat.le_of_ble_eq_true rfl) (by decide +kernel) ?_
  refine aw_aload_n (k' := 0) (by decide +kernel) rfl ?_
  refine aw_bipush (n := 6) (by decide +kernel) (by decide +kernel) ?_
  refine aw_newa (at9 := .int) (ty := .int) (kd := 0) (n9 := 6) (k := 1) (b' := (b - 1)) (t := 168) (n := 167) (q := q) (r := r) 6 (by decide) (by decide) w (show shp 168 = (0, 6) by decide +kernel) rfl (by decide) rfl (tb_mem 53 (by decide +kernel) (by decide +kernel)) (by decide +kernel) (by decide +kernel) (Nat.le_of_ble_eq_true rfl) (by decide +kernel) ⟨Nat.le_of_ble_eq_true rfl, Nat.le_of_ble_eq_true rfl⟩ (by omega) (fun w => ?_)
  show AW Γ l mX6_init d (b - 1) 9 [vR 167] [vR 168, vR 167] (mkw q 168 r) K
  refine aw_putR (C := RX6) (T := TX6) (N := 3) (ci := 5) (idx := 9) (k := 0) (j := 0) tyX6 w (by decide) (by decide +kernel) rfl (by decide) rfl rfl rfl (tb_mem 329 (by decide +kernel) (by decide +kernel)) inX6 tyX6_ok nmX6 rfl rfl rfl (show shp 167 = (15, 0) by decide +kernel) (show (167 : Int) ≤ ((168 : Nat) : Int) by decide) (fun w => ?_)
  show AW Γ l mX6_init d (b - 1) 12 [vR 167] [] (mkw q 168 ((167, 0, 168) :: r)) K
  refine aw_aload_n (k' := 0) (by decide +kernel) rfl ?_
  refine aw_bipush (n := 6) (by decide +kernel) (by decide +kernel) ?_
  refine aw_newa (at9 := .int) (ty := .int) (kd := 0) (n9 := 6) (k := 1) (b' := (b - 2)) (t := 169) (n := 168) (q := q) (r := (167, 0, 168) :: r) 6 (by decide) (by decide) w (show shp 169 = (0, 6) by decide +kernel) rfl (by decide) rfl (tb_mem 53 (by decide +kernel) (by decide +kernel)) (by decide +kernel) (by decide +kernel) (Nat.le_of_ble_eq_true rfl) (by decide +kernel) ⟨Nat.le_of_ble_eq_true rfl, Nat.le_of_ble_eq_true rfl⟩ (by omega) (fun w => ?_)
  show AW Γ l mX6_init d (b - 2) 17 [vR 167] [vR 169, vR 167] (mkw q 169 ((167, 0, 168) :: r)) K
  refine aw_putR (C := RX6) (T := TX6) (N := 3) (ci := 5) (idx := 15) (k := 1) (j := 1) tyX6 w (by decide) (by decide +kernel) rfl (by decide) rfl rfl rfl (tb_mem 330 (by decide +kernel) (by decide +kernel)) inX6 tyX6_ok nmX6 rfl rfl rfl (show shp 167 = (15, 0) by decide +kernel) (show (167 : Int) ≤ ((169 : Nat) : Int) by decide) (fun w => ?_)
  show AW Γ l mX6_init d (b - 2) 20 [vR 167] [] (mkw q 169 ((167, 1, 169) :: (167, 0, 168) :: r)) K
  refine aw_aload_n (k' := 0) (by decide +kernel) rfl ?_
  refine aw_iconst (n := -1) (by decide +kernel) ?_
  refine pfX6_18 rfl (by decide +kernel) ⟨(show shp 167 = (15, 0) by decide +kernel), (show (167 : Int) ≤ ((169 : Nat) : Int) by decide)⟩ ?_
  have w := w.pq (t := 167) (j := 2) (v := -1) (show (167 : Int) ≤ ((169 : Nat) : Int) by decide)
  show AW Γ l mX6_init d (b - 2) 25 [vR 167] [] (mkw ((167, 2, -1) :: q) 169 ((167, 1, 169) :: (167, 0, 168) :: r)) K
  exact aw_vret (by decide +kernel) rfl (k w)
def qX11_1 (q : List (Int × Int × Int)) : List (Int × Int × Int) := qX9 q
def rX11_1 (r : List (Int × Int × Int)) : List (Int × Int × Int) := rX9 r
def qX11_2 (q : List (Int × Int × Int)) : List (Int × Int × Int) := qX10 (qX11_1 q)
def rX11_2 (r : List (Int × Int × Int)) : List (Int × Int × Int) := rX10 ((1, 0, 2) :: rX11_1 r)
def qX11_3 (q : List (Int × Int × Int)) : List (Int × Int × Int) := qX2 8 (qX11_2 q)
def rX11_3 (r : List (Int × Int × Int)) : List (Int × Int × Int) := rX2 8 ((1, 1, 4) :: rX11_2 r)
def qX11_4 (q : List (Int × Int × Int)) : List (Int × Int × Int) := qX2 17 (qX11_3 q)
def rX11_4 (r : List (Int × Int × Int)) : List (Int × Int × Int) := rX2 17 ((1, 2, 8) :: rX11_3 r)
def qX11_5 (q : List (Int × Int × Int)) : List (Int × Int × Int) := qX2 26 (qX11_4 q)
def rX11_5 (r : List (Int × Int × Int)) : List (Int × Int × Int) := rX2 26 ((1, 3, 17) :: rX11_4 r)
def qX11_6 (q : List (Int × Int × Int)) : List (Int × Int × Int) := qX4 35 (qX11_5 q)
def rX11_6 (r : List (Int × Int × Int)) : List (Int × Int × Int) := rX4 35 ((1, 4, 26) :: rX11_5 r)
def qX11_7 (q : List (Int × Int × Int)) : List (Int × Int × Int) := qX4 38 (qX11_6 q)
def rX11_7 (r : List (Int × Int × Int)) : List (Int × Int × Int) := rX4 38 ((1, 5, 35) :: rX11_6 r)
def qX11_8 (q : List (Int × Int × Int)) : List (Int × Int × Int) := qX4 41 (qX11_7 q)
def rX11_8 (r : List (Int × Int × Int)) : List (Int × Int × Int) := rX4 41 ((1, 6, 38) :: rX11_7 r)
def qX11_9 (q : List (Int × Int × Int)) : List (Int × Int × Int) := qX2 45 (qX11_8 q)
def rX11_9 (r : List (Int × Int × Int)) : List (Int × Int × Int) := rX2 45 ((1, 8, 44) :: (1, 7, 41) :: rX11_8 r)
def qX11_10 (q : List (Int × Int × Int)) : List (Int × Int × Int) := qX2 54 (qX11_9 q)
def rX11_10 (r : List (Int × Int × Int)) : List (Int × Int × Int) := rX2 54 ((44, 0, 45) :: rX11_9 r)
def qX11_11 (q : List (Int × Int × Int)) : List (Int × Int × Int) := qX2 63 (qX11_10 q)
def rX11_11 (r : List (Int × Int × Int)) : List (Int × Int × Int) := rX2 63 ((44, 1, 54) :: rX11_10 r)
def qX11_12 (q : List (Int × Int × Int)) : List (Int × Int × Int) := qX2 72 (qX11_11 q)
def rX11_12 (r : List (Int × Int × Int)) : List (Int × Int × Int) := rX2 72 ((44, 2, 63) :: rX11_11 r)
def qX11_13 (q : List (Int × Int × Int)) : List (Int × Int × Int) := qX2 81 (qX11_12 q)
def rX11_13 (r : List (Int × Int × Int)) : List (Int × Int × Int) := rX2 81 ((44, 3, 72) :: rX11_12 r)
def qX11_14 (q : List (Int × Int × Int)) : List (Int × Int × Int) := qX2 90 (qX11_13 q)
def rX11_14 (r : List (Int × Int × Int)) : List (Int × Int × Int) := rX2 90 ((44, 4, 81) :: rX11_13 r)
def qX11_15 (q : List (Int × Int × Int)) : List (Int × Int × Int) := qX2 99 (qX11_14 q)
def rX11_15 (r : List (Int × Int × Int)) : List (Int × Int × Int) := rX2 99 ((44, 5, 90) :: rX11_14 r)
def qX11_16 (q : List (Int × Int × Int)) : List (Int × Int × Int) := qX2 108 (qX11_15 q)
def rX11_16 (r : List (Int × Int × Int)) : List (Int × Int × Int) := rX2 108 ((44, 6, 99) :: rX11_15 r)
def qX11_17 (q : List (Int × Int × Int)) : List (Int × Int × Int) := qX2 117 (qX11_16 q)
def rX11_17 (r : List (Int × Int × Int)) : List (Int × Int × Int) := rX2 117 ((44, 7, 108) :: rX11_16 r)
def qX11_18 (q : List (Int × Int × Int)) : List (Int × Int × Int) := qX2 126 (qX11_17 q)
def rX11_18 (r : List (Int × Int × Int)) : List (Int × Int × Int) := rX2 126 ((44, 8, 117) :: rX11_17 r)
def qX11_19 (q : List (Int × Int × Int)) : List (Int × Int × Int) := qX2 135 (qX11_18 q)
def rX11_19 (r : List (Int × Int × Int)) : List (Int × Int × Int) := rX2 135 ((44, 9, 126) :: rX11_18 r)
def qX11_20 (q : List (Int × Int × Int)) : List (Int × Int × Int) := qX2 144 (qX11_19 q)
def rX11_20 (r : List (Int × Int × Int)) : List (Int × Int × Int) := rX2 144 ((44, 10, 135) :: rX11_19 r)
def qX11_21 (q : List (Int × Int × Int)) : List (Int × Int × Int) := qX7 (qX11_20 q)
def rX11_21 (r : List (Int × Int × Int)) : List (Int × Int × Int) := rX7 ((44, 11, 144) :: rX11_20 r)
def qX11_22 (q : List (Int × Int × Int)) : List (Int × Int × Int) := qX1 (qX11_21 q)
def rX11_22 (r : List (Int × Int × Int)) : List (Int × Int × Int) := rX1 ((1, 9, 153) :: rX11_21 r)
def qX11_23 (q : List (Int × Int × Int)) : List (Int × Int × Int) := qX5 (qX11_22 q)
def rX11_23 (r : List (Int × Int × Int)) : List (Int × Int × Int) := rX5 ((1, 10, 160) :: rX11_22 r)
def qX11_24 (q : List (Int × Int × Int)) : List (Int × Int × Int) := qX6 (qX11_23 q)
def rX11_24 (r : List (Int × Int × Int)) : List (Int × Int × Int) := rX6 ((1, 11, 161) :: rX11_23 r)
def qX11 (q : List (Int × Int × Int)) : List (Int × Int × Int) := (1, 17, -1) :: (1, 16, 0) :: (1, 15, 0) :: (1, 14, 0) :: qX11_24 q
def rX11 (r : List (Int × Int × Int)) : List (Int × Int × Int) := (1, 13, 170) :: (1, 12, 167) :: rX11_24 r
set_option maxHeartbeats 4000000 in
set_option maxRecDepth 100000 in
theorem ct_X11 {Γ : Cfg} {l : Launch} {d b : Nat} {q r : List (Int × Int × Int)} {K : Ou → HP → Prop} (w : LW q 1 r) (hb : 673 ≤ b) (k : LW (qX11 q) 170 (rX11 r) → K (.inl vU) (mkw (qX11 q) 170 (rX11 r))) : Ct Γ l (d + 2) b yX11_init mX11_init [vR 1] (mkw q 1 r) K := by
  refine Ct.enter (L := [vR 1, vU]) rfl rfl rfl (by decide +kernel) (by simp [oneSlot]) (Nat.le_of_ble_eq_true rfl) rfl ?_
  refine aw_aload_n (k' := 0) (by decide +kernel) rfl ?_
  refine aw_objI (idx := 1) (by decide) (tb_mem 35 (by decide +kernel) (by decide +kernel)) (by simp [oneSlot]) (Nat.le_of_ble_eq_true rfl) (by decide +kernel) ?_
  refine aw_aload_n (k' := 0) (by decide +kernel) rfl ?_
  refine aw_new (C := RX9) (T := TX9) (N := 2) (ci := 7) (idx := 7) (k := 1) (b' := (b - 1)) (t := 2) (n := 1) (q := q) (r := r) tyX9 (by decide) (by decide) w (show shp 2 = (17, 0) by decide +kernel) rfl (tb_mem 38 (by decide +kernel) (by decide +kernel)) (tb_mem 39 (by decide +kernel) (by decide +kernel)) (tb_mem 2 (by decide +kernel) (by decide +kernel)) inX9 tyX9_ok (by decide +kernel) (by decide +kernel) (by decide) (by omega) (fun w => ?_)
  show AW Γ l mX11_init (d + 2) (b - 1) 8 [vR 1, vU] [vR 2, vR 1] (mkw q 2 r) K
  refine aw_dup (by decide +kernel) trivial ?_
  refine aw_callI (idx := 9) (y := yX9_init) (M2 := mX9_init) (as := []) (S := [vR 2, vR 1]) (t := 2) (d2 := (d + 1)) (b2 := 25) (b3 := (b - 26)) (by decide) cwX9_init (tb_mem 40 (by decide +kernel) (by decide +kernel)) imX9_init rfl rfl (by decide +kernel) rfl (Nat.le_refl _) (by omega) rfl rfl (by simp [oneSlot]) (Nat.le_of_ble_eq_true rfl) (ct_X9 (q := q) (r := r) w (by omega) (fun w => ?_))
  have w : LW (qX11_1 q) 3 (rX11_1 r) := w
  show AW Γ l mX11_init (d + 2) (b - 26) 12 [vR 1, vU] [vR 2, vR 1] (mkw (qX11_1 q) 3 (rX11_1 r)) K
  refine aw_putR (C := RX11) (T := TX11) (N := 18) (ci := 9) (idx := 10) (k := 0) (j := 0) tyX11 w (by decide) (by decide +kernel) rfl (by decide) rfl rfl rfl (tb_mem 341 (by decide +kernel) (by decide +kernel)) inX11 tyX11_ok nmX11 rfl rfl rfl (show shp 1 = (19, 0) by decide +kernel) (show (1 : Int) ≤ ((3 : Nat) : Int) by decide) (fun w => ?_)
  show AW Γ l mX11_init (d + 2) (b - 26) 15 [vR 1, vU] [] (mkw (qX11_1 q) 3 ((1, 0, 2) :: rX11_1 r)) K
  refine aw_aload_n (k' := 0) (by decide +kernel) rfl ?_
  refine aw_new (C := RX10) (T := TX10) (N := 7) (ci := 8) (idx := 16) (k := 1) (b' := (b - 27)) (t := 4) (n := 3) (q := qX11_1 q) (r := (1, 0, 2) :: rX11_1 r) tyX10 (by decide) (by decide) w (show shp 4 = (18, 0) by decide +kernel) rfl (tb_mem 54 (by decide +kernel) (by decide +kernel)) (tb_mem 55 (by decide +kernel) (by decide +kernel)) (tb_mem 3 (by decide +kernel) (by decide +kernel)) inX10 tyX10_ok (by decide +kernel) (by decide +kernel) (by decide) (by omega) (fun w => ?_)
  show AW Γ l mX11_init (d + 2) (b - 27) 19 [vR 1, vU] [vR 4, vR 1] (mkw (qX11_1 q) 4 ((1, 0, 2) :: rX11_1 r)) K
  refine aw_dup (by decide +kernel) trivial ?_
  refine aw_callI (idx := 18) (y := yX10_init) (M2 := mX10_init) (as := []) (S := [vR 4, vR 1]) (t := 4) (d2 := (d + 1)) (b2 := 78) (b3 := (b - 105)) (by decide) cwX10_init (tb_mem 56 (by decide +kernel) (by decide +kernel)) imX10_init rfl rfl (by decide +kernel) rfl (Nat.le_refl _) (by omega) rfl rfl (by simp [oneSlot]) (Nat.le_of_ble_eq_true rfl) (ct_X10 (q := (qX11_1 q)) (r := ((1, 0, 2) :: rX11_1 r)) w (by omega) (fun w => ?_))
  have w : LW (qX11_2 q) 7 (rX11_2 r) := w
  show AW Γ l mX11_init (d + 2) (b - 105) 23 [vR 1, vU] [vR 4, vR 1] (mkw (qX11_2 q) 7 (rX11_2 r)) K
  refine aw_putR (C := RX11) (T := TX11) (N := 18) (ci := 9) (idx := 19) (k := 1) (j := 1) tyX11 w (by decide) (by decide +kernel) rfl (by decide) rfl rfl rfl (tb_mem 342 (by decide +kernel) (by decide +kernel)) inX11 tyX11_ok nmX11 rfl rfl rfl (show shp 1 = (19, 0) by decide +kernel) (show (1 : Int) ≤ ((7 : Nat) : Int) by decide) (fun w => ?_)
  show AW Γ l mX11_init (d + 2) (b - 105) 26 [vR 1, vU] [] (mkw (qX11_2 q) 7 ((1, 1, 4) :: rX11_2 r)) K
  refine aw_aload_n (k' := 0) (by decide +kernel) rfl ?_
  refine aw_new (C := RX2) (T := TX2) (N := 15) (ci := 2) (idx := 23) (k := 1) (b' := (b - 106)) (t := 8) (n := 7) (q := qX11_2 q) (r := (1, 1, 4) :: rX11_2 r) tyX2 (by decide) (by decide) w (show shp 8 = (12, 0) by decide +kernel) rfl (tb_mem 91 (by decide +kernel) (by decide +kernel)) (tb_mem 92 (by decide +kernel) (by decide +kernel)) (tb_mem 6 (by decide +kernel) (by decide +kernel)) inX2 tyX2_ok (by decide +kernel) (by decide +kernel) (by decide) (by omega) (fun w => ?_)
  show AW Γ l mX11_init (d + 2) (b - 106) 30 [vR 1, vU] [vR 8, vR 1] (mkw (qX11_2 q) 8 ((1, 1, 4) :: rX11_2 r)) K
  refine aw_dup (by decide +kernel) trivial ?_
  refine aw_callI (idx := 25) (y := yX2_init) (M2 := mX2_init) (as := []) (S := [vR 8, vR 1]) (t := 8) (d2 := (d + 1)) (b2 := 30) (b3 := (b - 136)) (by decide) cwX2_init (tb_mem 93 (by decide +kernel) (by decide +kernel)) imX2_init rfl rfl (by decide +kernel) rfl (Nat.le_refl _) (by omega) rfl rfl (by simp [oneSlot]) (Nat.le_of_ble_eq_true rfl) (ct_X2 (t := 8) (q := (qX11_2 q)) (r := ((1, 1, 4) :: rX11_2 r)) (n := 8) (HI.lit (by decide +kernel)) (by decide) w (by omega) (fun w => ?_))
  have w : LW (qX11_3 q) 16 (rX11_3 r) := w
  show AW Γ l mX11_init (d + 2) (b - 136) 34 [vR 1, vU] [vR 8, vR 1] (mkw (qX11_3 q) 16 (rX11_3 r)) K
  refine aw_putR (C := RX11) (T := TX11) (N := 18) (ci := 9) (idx := 26) (k := 2) (j := 2) tyX11 w (by decide) (by decide +kernel) rfl (by decide) rfl rfl rfl (tb_mem 343 (by decide +kernel) (by decide +kernel)) inX11 tyX11_ok nmX11 rfl rfl rfl (show shp 1 = (19, 0) by decide +kernel) (show (1 : Int) ≤ ((16 : Nat) : Int) by decide) (fun w => ?_)
  show AW Γ l mX11_init (d + 2) (b - 136) 37 [vR 1, vU] [] (mkw (qX11_3 q) 16 ((1, 2, 8) :: rX11_3 r)) K
  refine aw_aload_n (k' := 0) (by decide +kernel) rfl ?_
  refine aw_new (C := RX2) (T := TX2) (N := 15) (ci := 2) (idx := 23) (k := 1) (b' := (b - 137)) (t := 17) (n := 16) (q := qX11_3 q) (r := (1, 2, 8) :: rX11_3 r) tyX2 (by decide) (by decide) w (show shp 17 = (12, 0) by decide +kernel) rfl (tb_mem 91 (by decide +kernel) (by decide +kernel)) (tb_mem 92 (by decide +kernel) (by decide +kernel)) (tb_mem 6 (by decide +kernel) (by decide +kernel)) inX2 tyX2_ok (by decide +kernel) (by decide +kernel) (by decide) (by omega) (fun w => ?_)
  show AW Γ l mX11_init (d + 2) (b - 137) 41 [vR 1, vU] [vR 17, vR 1] (mkw (qX11_3 q) 17 ((1, 2, 8) :: rX11_3 r)) K
  refine aw_dup (by decide +kernel) trivial ?_
  refine aw_callI (idx := 25) (y := yX2_init) (M2 := mX2_init) (as := []) (S := [vR 17, vR 1]) (t := 17) (d2 := (d + 1)) (b2 := 30) (b3 := (b - 167)) (by decide) cwX2_init (tb_mem 93 (by decide +kernel) (by decide +kernel)) imX2_init rfl rfl (by decide +kernel) rfl (Nat.le_refl _) (by omega) rfl rfl (by simp [oneSlot]) (Nat.le_of_ble_eq_true rfl) (ct_X2 (t := 17) (q := (qX11_3 q)) (r := ((1, 2, 8) :: rX11_3 r)) (n := 17) (HI.lit (by decide +kernel)) (by decide) w (by omega) (fun w => ?_))
  have w : LW (qX11_4 q) 25 (rX11_4 r) := w
  show AW Γ l mX11_init (d + 2) (b - 167) 45 [vR 1, vU] [vR 17, vR 1] (mkw (qX11_4 q) 25 (rX11_4 r)) K
  refine aw_putR (C := RX11) (T := TX11) (N := 18) (ci := 9) (idx := 30) (k := 3) (j := 3) tyX11 w (by decide) (by decide +kernel) rfl (by decide) rfl rfl rfl (tb_mem 344 (by decide +kernel) (by decide +kernel)) inX11 tyX11_ok nmX11 rfl rfl rfl (show shp 1 = (19, 0) by decide +kernel) (show (1 : Int) ≤ ((25 : Nat) : Int) by decide) (fun w => ?_)
  show AW Γ l mX11_init (d + 2) (b - 167) 48 [vR 1, vU] [] (mkw (qX11_4 q) 25 ((1, 3, 17) :: rX11_4 r)) K
  refine aw_aload_n (k' := 0) (by decide +kernel) rfl ?_
  refine aw_new (C := RX2) (T := TX2) (N := 15) (ci := 2) (idx := 23) (k := 1) (b' := (b - 168)) (t := 26) (n := 25) (q := qX11_4 q) (r := (1, 3, 17) :: rX11_4 r) tyX2 (by decide) (by decide) w (show shp 26 = (12, 0) by decide +kernel) rfl (tb_mem 91 (by decide +kernel) (by decide +kernel)) (tb_mem 92 (by decide +kernel) (by decide +kernel)) (tb_mem 6 (by decide +kernel) (by decide +kernel)) inX2 tyX2_ok (by decide +kernel) (by decide +kernel) (by decide) (by omega) (fun w => ?_)
  show AW Γ l mX11_init (d + 2) (b - 168) 52 [vR 1, vU] [vR 26, vR 1] (mkw (qX11_4 q) 26 ((1, 3, 17) :: rX11_4 r)) K
  refine aw_dup (by decide +kernel) trivial ?_
  refine aw_callI (idx := 25) (y := yX2_init) (M2 := mX2_init) (as := []) (S := [vR 26, vR 1]) (t := 26) (d2 := (d + 1)) (b2 := 30) (b3 := (b - 198)) (by decide) cwX2_init (tb_mem 93 (by decide +kernel) (by decide +kernel)) imX2_init rfl rfl (by decide +kernel) rfl (Nat.le_refl _) (by omega) rfl rfl (by simp [oneSlot]) (Nat.le_of_ble_eq_true rfl) (ct_X2 (t := 26) (q := (qX11_4 q)) (r := ((1, 3, 17) :: rX11_4 r)) (n := 26) (HI.lit (by decide +kernel)) (by decide) w (by omega) (fun w => ?_))
  have w : LW (qX11_5 q) 34 (rX11_5 r) := w
  show AW Γ l mX11_init (d + 2) (b - 198) 56 [vR 1, vU] [vR 26, vR 1] (mkw (qX11_5 q) 34 (rX11_5 r)) K
  refine aw_putR (C := RX11) (T := TX11) (N := 18) (ci := 9) (idx := 33) (k := 4) (j := 4) tyX11 w (by decide) (by decide +kernel) rfl (by decide) rfl rfl rfl (tb_mem 345 (by decide +kernel) (by decide +kernel)) inX11 tyX11_ok nmX11 rfl rfl rfl (show shp 1 = (19, 0) by decide +kernel) (show (1 : Int) ≤ ((34 : Nat) : Int) by decide) (fun w => ?_)
  show AW Γ l mX11_init (d + 2) (b - 198) 59 [vR 1, vU] [] (mkw (qX11_5 q) 34 ((1, 4, 26) :: rX11_5 r)) K
  refine aw_aload_n (k' := 0) (by decide +kernel) rfl ?_
  refine aw_new (C := RX4) (T := TX4) (N := 8) (ci := 3) (idx := 36) (k := 1) (b' := (b - 199)) (t := 35) (n := 34) (q := qX11_5 q) (r := (1, 4, 26) :: rX11_5 r) tyX4 (by decide) (by decide) w (show shp 35 = (13, 0) by decide +kernel) rfl (tb_mem 181 (by decide +kernel) (by decide +kernel)) (tb_mem 182 (by decide +kernel) (by decide +kernel)) (tb_mem 7 (by decide +kernel) (by decide +kernel)) inX4 tyX4_ok (by decide +kernel) (by decide +kernel) (by decide) (by omega) (fun w => ?_)
  show AW Γ l mX11_init (d + 2) (b - 199) 63 [vR 1, vU] [vR 35, vR 1] (mkw (qX11_5 q) 35 ((1, 4, 26) :: rX11_5 r)) K
  refine aw_dup (by decide +kernel) trivial ?_
  refine aw_callI (idx := 38) (y := yX4_init) (M2 := mX4_init) (as := []) (S := [vR 35, vR 1]) (t := 35) (d2 := (d + 1)) (b2 := 27) (b3 := (b - 226)) (by decide) cwX4_init (tb_mem 183 (by decide +kernel) (by decide +kernel)) imX4_init rfl rfl (by decide +kernel) rfl (Nat.le_refl _) (by omega) rfl rfl (by simp [oneSlot]) (Nat.le_of_ble_eq_true rfl) (ct_X4 (t := 35) (q := (qX11_5 q)) (r := ((1, 4, 26) :: rX11_5 r)) (n := 35) (LA.lit (by decide +kernel)) (by decide) w (by omega) (fun w => ?_))
  have w : LW (qX11_6 q) 37 (rX11_6 r) := w
  show AW Γ l mX11_init (d + 2) (b - 226) 67 [vR 1, vU] [vR 35, vR 1] (mkw (qX11_6 q) 37 (rX11_6 r)) K
  refine aw_putR (C := RX11) (T := TX11) (N := 18) (ci := 9) (idx := 39) (k := 5) (j := 5) tyX11 w (by decide) (by decide +kernel) rfl (by decide) rfl rfl rfl (tb_mem 346 (by decide +kernel) (by decide +kernel)) inX11 tyX11_ok nmX11 rfl rfl rfl (show shp 1 = (19, 0) by decide +kernel) (show (1 : Int) ≤ ((37 : Nat) : Int) by decide) (fun w => ?_)
  show AW Γ l mX11_init (d + 2) (b - 226) 70 [vR 1, vU] [] (mkw (qX11_6 q) 37 ((1, 5, 35) :: rX11_6 r)) K
  refine aw_aload_n (k' := 0) (by decide +kernel) rfl ?_
  refine aw_new (C := RX4) (T := TX4) (N := 8) (ci := 3) (idx := 36) (k := 1) (b' := (b - 227)) (t := 38) (n := 37) (q := qX11_6 q) (r := (1, 5, 35) :: rX11_6 r) tyX4 (by decide) (by decide) w (show shp 38 = (13, 0) by decide +kernel) rfl (tb_mem 181 (by decide +kernel) (by decide +kernel)) (tb_mem 182 (by decide +kernel) (by decide +kernel)) (tb_mem 7 (by decide +kernel) (by decide +kernel)) inX4 tyX4_ok (by decide +kernel) (by decide +kernel) (by decide) (by omega) (fun w => ?_)
  show AW Γ l mX11_init (d + 2) (b - 227) 74 [vR 1, vU] [vR 38, vR 1] (mkw (qX11_6 q) 38 ((1, 5, 35) :: rX11_6 r)) K
  refine aw_dup (by decide +kernel) trivial ?_
  refine aw_callI (idx := 38) (y := yX4_init) (M2 := mX4_init) (as := []) (S := [vR 38, vR 1]) (t := 38) (d2 := (d + 1)) (b2 := 27) (b3 := (b - 254)) (by decide) cwX4_init (tb_mem 183 (by decide +kernel) (by decide +kernel)) imX4_init rfl rfl (by decide +kernel) rfl (Nat.le_refl _) (by omega) rfl rfl (by simp [oneSlot]) (Nat.le_of_ble_eq_true rfl) (ct_X4 (t := 38) (q := (qX11_6 q)) (r := ((1, 5, 35) :: rX11_6 r)) (n := 38) (LA.lit (by decide +kernel)) (by decide) w (by omega) (fun w => ?_))
  have w : LW (qX11_7 q) 40 (rX11_7 r) := w
  show AW Γ l mX11_init (d + 2) (b - 254) 78 [vR 1, vU] [vR 38, vR 1] (mkw (qX11_7 q) 40 (rX11_7 r)) K
  refine aw_putR (C := RX11) (T := TX11) (N := 18) (ci := 9) (idx := 43) (k := 6) (j := 6) tyX11 w (by decide) (by decide +kernel) rfl (by decide) rfl rfl rfl (tb_mem 347 (by decide +kernel) (by decide +kernel)) inX11 tyX11_ok nmX11 rfl rfl rfl (show shp 1 = (19, 0) by decide +kernel) (show (1 : Int) ≤ ((40 : Nat) : Int) by decide) (fun w => ?_)
  show AW Γ l mX11_init (d + 2) (b - 254) 81 [vR 1, vU] [] (mkw (qX11_7 q) 40 ((1, 6, 38) :: rX11_7 r)) K
  refine aw_aload_n (k' := 0) (by decide +kernel) rfl ?_
  refine aw_new (C := RX4) (T := TX4) (N := 8) (ci := 3) (idx := 36) (k := 1) (b' := (b - 255)) (t := 41) (n := 40) (q := qX11_7 q) (r := (1, 6, 38) :: rX11_7 r) tyX4 (by decide) (by decide) w (show shp 41 = (13, 0) by decide +kernel) rfl (tb_mem 181 (by decide +kernel) (by decide +kernel)) (tb_mem 182 (by decide +kernel) (by decide +kernel)) (tb_mem 7 (by decide +kernel) (by decide +kernel)) inX4 tyX4_ok (by decide +kernel) (by decide +kernel) (by decide) (by omega) (fun w => ?_)
  show AW Γ l mX11_init (d + 2) (b - 255) 85 [vR 1, vU] [vR 41, vR 1] (mkw (qX11_7 q) 41 ((1, 6, 38) :: rX11_7 r)) K
  refine aw_dup (by decide +kernel) trivial ?_
  refine aw_callI (idx := 38) (y := yX4_init) (M2 := mX4_init) (as := []) (S := [vR 41, vR 1]) (t := 41) (d2 := (d + 1)) (b2 := 27) (b3 := (b - 282)) (by decide) cwX4_init (tb_mem 183 (by decide +kernel) (by decide +kernel)) imX4_init rfl rfl (by decide +kernel) rfl (Nat.le_refl _) (by omega) rfl rfl (by simp [oneSlot]) (Nat.le_of_ble_eq_true rfl) (ct_X4 (t := 41) (q := (qX11_7 q)) (r := ((1, 6, 38) :: rX11_7 r)) (n := 41) (LA.lit (by decide +kernel)) (by decide) w (by omega) (fun w => ?_))
  have w : LW (qX11_8 q) 43 (rX11_8 r) := w
  show AW Γ l mX11_init (d + 2) (b - 282) 89 [vR 1, vU] [vR 41, vR 1] (mkw (qX11_8 q) 43 (rX11_8 r)) K
  refine aw_putR (C := RX11) (T := TX11) (N := 18) (ci := 9) (idx := 46) (k := 7) (j := 7) tyX11 w (by decide) (by decide +kernel) rfl (by decide) rfl rfl rfl (tb_mem 348 (by decide +kernel) (by decide +kernel)) inX11 tyX11_ok nmX11 rfl rfl rfl (show shp 1 = (19, 0) by decide +kernel) (show (1 : Int) ≤ ((43 : Nat) : Int) by decide) (fun w => ?_)
  show AW Γ l mX11_init (d + 2) (b - 282) 92 [vR 1, vU] [] (mkw (qX11_8 q) 43 ((1, 7, 41) :: rX11_8 r)) K
  refine aw_aload_n (k' := 0) (by decide +kernel) rfl ?_
  refine aw_bipush (n := 12) (by decide +kernel) (by decide +kernel) ?_
  refine aw_newq (C := "HalfOaths$Hills") (kd := 4) (n9 := 12) (k := 1) (b' := (b - 283)) (idx := 23) (t := 44) (n := 43) (q := qX11_8 q) (r := (1, 7, 41) :: rX11_8 r) 12 (by decide) (by decide) w (show shp 44 = (4, 12) by decide +kernel) (Or.inl rfl) (tb_mem 91 (by decide +kernel) (by decide +kernel)) (by decide +kernel) (by decide +kernel) (Nat.le_of_ble_eq_true rfl) (by decide +kernel) ⟨Nat.le_of_ble_eq_true rfl, Nat.le_of_ble_eq_true rfl⟩ (by omega) (fun w => ?_)
  show AW Γ l mX11_init (d + 2) (b - 283) 98 [vR 1, vU] [vR 44, vR 1] (mkw (qX11_8 q) 44 ((1, 7, 41) :: rX11_8 r)) K
  refine aw_putR (C := RX11) (T := TX11) (N := 18) (ci := 9) (idx := 49) (k := 8) (j := 8) tyX11 w (by decide) (by decide +kernel) rfl (by decide) rfl rfl rfl (tb_mem 349 (by decide +kernel) (by decide +kernel)) inX11 tyX11_ok nmX11 rfl rfl rfl (show shp 1 = (19, 0) by decide +kernel) (show (1 : Int) ≤ ((44 : Nat) : Int) by decide) (fun w => ?_)
  show AW Γ l mX11_init (d + 2) (b - 283) 101 [vR 1, vU] [] (mkw (qX11_8 q) 44 ((1, 8, 44) :: (1, 7, 41) :: rX11_8 r)) K
  refine aw_iconst (n := 0) (by decide +kernel) ?_
  refine aw_istore_n (k' := 1) (by decide +kernel) (by decide) ?_
  show AW Γ l mX11_init (d + 2) (b - 283) 103 [vR 1, vI 0] [] (mkw (qX11_8 q) 44 ((1, 8, 44) :: (1, 7, 41) :: rX11_8 r)) K
  refine aw_iload_n (k' := 1) (by decide +kernel) rfl ?_
  refine aw_aload_n (k' := 0) (by decide +kernel) rfl ?_
  refine gfX11_49 rfl (by decide +kernel) ⟨(show shp 1 = (19, 0) by decide +kernel), (show (1 : Int) ≤ ((44 : Nat) : Int) by decide)⟩ ?_
  refine AW.topR (show lkR ((1, 8, 44) :: (1, 7, 41) :: rX11_8 r) 1 8 = 44 from rfl) ?_
  refine aw_alen (k := 4) (n := 12) (by decide +kernel) (by decide) ⟨(show shp 44 = (4, 12) by decide +kernel), (show (44 : Int) ≤ ((44 : Nat) : Int) by decide)⟩ ?_
  show AW Γ l mX11_init (d + 2) (b - 283) 109 [vR 1, vI 0] [vI 12, vI 0] (mkw (qX11_8 q) 44 ((1, 8, 44) :: (1, 7, 41) :: rX11_8 r)) K
  refine ax_icmp_ge (off := 22) (tgt := 131) (x' := 0) (y' := 12) (by decide +kernel) (by decide) (by decide +kernel) (by decide +kernel) (fun hc => absurd hc (by decide)) (fun hc => ?_)
  refine aw_aload_n (k' := 0) (by decide +kernel) rfl ?_
  refine gfX11_49 rfl (by decide +kernel) ⟨(show shp 1 = (19, 0) by decide +kernel), (show (1 : Int) ≤ ((44 : Nat) : Int) by decide)⟩ ?_
  refine AW.topR (show lkR ((1, 8, 44) :: (1, 7, 41) :: rX11_8 r) 1 8 = 44 from rfl) ?_
  refine aw_iload_n (k' := 1) (by decide +kernel) rfl ?_
  refine aw_new (C := RX2) (T := TX2) (N := 15) (ci := 2) (idx := 23) (k := 1) (b' := (b - 284)) (t := 45) (n := 44) (q := qX11_8 q) (r := (1, 8, 44) :: (1, 7, 41) :: rX11_8 r) tyX2 (by decide) (by decide) w (show shp 45 = (12, 0) by decide +kernel) rfl (tb_mem 91 (by decide +kernel) (by decide +kernel)) (tb_mem 92 (by decide +kernel) (by decide +kernel)) (tb_mem 6 (by decide +kernel) (by decide +kernel)) inX2 tyX2_ok (by decide +kernel) (by decide +kernel) (by decide) (by omega) (fun w => ?_)
  show AW Γ l mX11_init (d + 2) (b - 284) 120 [vR 1, vI 0] [vR 45, vI 0, vR 44] (mkw (qX11_8 q) 45 ((1, 8, 44) :: (1, 7, 41) :: rX11_8 r)) K
  refine aw_dup (by decide +kernel) trivial ?_
  refine aw_callI (idx := 25) (y := yX2_init) (M2 := mX2_init) (as := []) (S := [vR 45, vI 0, vR 44]) (t := 45) (d2 := (d + 1)) (b2 := 30) (b3 := (b - 314)) (by decide) cwX2_init (tb_mem 93 (by decide +kernel) (by decide +kernel)) imX2_init rfl rfl (by decide +kernel) rfl (Nat.le_refl _) (by omega) rfl rfl (by simp [oneSlot]) (Nat.le_of_ble_eq_true rfl) (ct_X2 (t := 45) (q := (qX11_8 q)) (r := ((1, 8, 44) :: (1, 7, 41) :: rX11_8 r)) (n := 45) (HI.lit (by decide +kernel)) (by decide) w (by omega) (fun w => ?_))
  have w : LW (qX11_9 q) 53 (rX11_9 r) := w
  show AW Γ l mX11_init (d + 2) (b - 314) 124 [vR 1, vI 0] [vR 45, vI 0, vR 44] (mkw (qX11_9 q) 53 (rX11_9 r)) K
  refine aw_aastH (i := 0) (t := 45) w (by decide) (by decide) (by decide +kernel) (by decide) (show shp 45 = (12, 0) by decide +kernel) (by decide) (fun w => ?_)
  show AW Γ l mX11_init (d + 2) (b - 314) 125 [vR 1, vI 0] [] (mkw (qX11_9 q) 53 ((44, 0, 45) :: rX11_9 r)) K
  refine aw_iinc (i := 1) (n := 1) (by decide +kernel) rfl (by decide) ?_
  show AW Γ l mX11_init (d + 2) (b - 314) 128 [vR 1, vI 1] [] (mkw (qX11_9 q) 53 ((44, 0, 45) :: rX11_9 r)) K
  refine aw_goto (off := -25) (tgt := 103) (by decide +kernel) (by decide) ?_
  refine aw_iload_n (k' := 1) (by decide +kernel) rfl ?_
  refine aw_aload_n (k' := 0) (by decide +kernel) rfl ?_
  refine gfX11_49 rfl (by decide +kernel) ⟨(show shp 1 = (19, 0) by decide +kernel), (show (1 : Int) ≤ ((53 : Nat) : Int) by decide)⟩ ?_
  refine AW.topR (show lkR ((44, 0, 45) :: rX11_9 r) 1 8 = 44 from rfl) ?_
  refine aw_alen (k := 4) (n := 12) (by decide +kernel) (by decide) ⟨(show shp 44 = (4, 12) by decide +kernel), (show (44 : Int) ≤ ((53 : Nat) : Int) by decide)⟩ ?_
  show AW Γ l mX11_init (d + 2) (b - 314) 109 [vR 1, vI 1] [vI 12, vI 1] (mkw (qX11_9 q) 53 ((44, 0, 45) :: rX11_9 r)) K
  refine ax_icmp_ge (off := 22) (tgt := 131) (x' := 1) (y' := 12) (by decide +kernel) (by decide) (by decide +kernel) (by decide +kernel) (fun hc => absurd hc (by decide)) (fun hc => ?_)
  refine aw_aload_n (k' := 0) (by decide +kernel) rfl ?_
  refine gfX11_49 rfl (by decide +kernel) ⟨(show shp 1 = (19, 0) by decide +kernel), (show (1 : Int) ≤ ((53 : Nat) : Int) by decide)⟩ ?_
  refine AW.topR (show lkR ((44, 0, 45) :: rX11_9 r) 1 8 = 44 from rfl) ?_
  refine aw_iload_n (k' := 1) (by decide +kernel) rfl ?_
  refine aw_new (C := RX2) (T := TX2) (N := 15) (ci := 2) (idx := 23) (k := 1) (b' := (b - 315)) (t := 54) (n := 53) (q := qX11_9 q) (r := (44, 0, 45) :: rX11_9 r) tyX2 (by decide) (by decide) w (show shp 54 = (12, 0) by decide +kernel) rfl (tb_mem 91 (by decide +kernel) (by decide +kernel)) (tb_mem 92 (by decide +kernel) (by decide +kernel)) (tb_mem 6 (by decide +kernel) (by decide +kernel)) inX2 tyX2_ok (by decide +kernel) (by decide +kernel) (by decide) (by omega) (fun w => ?_)
  show AW Γ l mX11_init (d + 2) (b - 315) 120 [vR 1, vI 1] [vR 54, vI 1, vR 44] (mkw (qX11_9 q) 54 ((44, 0, 45) :: rX11_9 r)) K
  refine aw_dup (by decide +kernel) trivial ?_
  refine aw_callI (idx := 25) (y := yX2_init) (M2 := mX2_init) (as := []) (S := [vR 54, vI 1, vR 44]) (t := 54) (d2 := (d + 1)) (b2 := 30) (b3 := (b - 345)) (by decide) cwX2_init (tb_mem 93 (by decide +kernel) (by decide +kernel)) imX2_init rfl rfl (by decide +kernel) rfl (Nat.le_refl _) (by omega) rfl rfl (by simp [oneSlot]) (Nat.le_of_ble_eq_true rfl) (ct_X2 (t := 54) (q := (qX11_9 q)) (r := ((44, 0, 45) :: rX11_9 r)) (n := 54) (HI.lit (by decide +kernel)) (by decide) w (by omega) (fun w => ?_))
  have w : LW (qX11_10 q) 62 (rX11_10 r) := w
  show AW Γ l mX11_init (d + 2) (b - 345) 124 [vR 1, vI 1] [vR 54, vI 1, vR 44] (mkw (qX11_10 q) 62 (rX11_10 r)) K
  refine aw_aastH (i := 1) (t := 54) w (by decide) (by decide) (by decide +kernel) (by decide) (show shp 54 = (12, 0) by decide +kernel) (by decide) (fun w => ?_)
  show AW Γ l mX11_init (d + 2) (b - 345) 125 [vR 1, vI 1] [] (mkw (qX11_10 q) 62 ((44, 1, 54) :: rX11_10 r)) K
  refine aw_iinc (i := 1) (n := 1) (by decide +kernel) rfl (by decide) ?_
  show AW Γ l mX11_init (d + 2) (b - 345) 128 [vR 1, vI 2] [] (mkw (qX11_10 q) 62 ((44, 1, 54) :: rX11_10 r)) K
  refine aw_goto (off := -25) (tgt := 103) (by decide +kernel) (by decide) ?_
  refine aw_iload_n (k' := 1) (by decide +kernel) rfl ?_
  refine aw_aload_n (k' := 0) (by decide +kernel) rfl ?_
  refine gfX11_49 rfl (by decide +kernel) ⟨(show shp 1 = (19, 0) by decide +kernel), (show (1 : Int) ≤ ((62 : Nat) : Int) by decide)⟩ ?_
  refine AW.topR (show lkR ((44, 1, 54) :: rX11_10 r) 1 8 = 44 from rfl) ?_
  refine aw_alen (k := 4) (n := 12) (by decide +kernel) (by decide) ⟨(show shp 44 = (4, 12) by decide +kernel), (show (44 : Int) ≤ ((62 : Nat) : Int) by decide)⟩ ?_
  show AW Γ l mX11_init (d + 2) (b - 345) 109 [vR 1, vI 2] [vI 12, vI 2] (mkw (qX11_10 q) 62 ((44, 1, 54) :: rX11_10 r)) K
  refine ax_icmp_ge (off := 22) (tgt := 131) (x' := 2) (y' := 12) (by decide +kernel) (by decide) (by decide +kernel) (by decide +kernel) (fun hc => absurd hc (by decide)) (fun hc => ?_)
  refine aw_aload_n (k' := 0) (by decide +kernel) rfl ?_
  refine gfX11_49 rfl (by decide +kernel) ⟨(show shp 1 = (19, 0) by decide +kernel), (show (1 : Int) ≤ ((62 : Nat) : Int) by decide)⟩ ?_
  refine AW.topR (show lkR ((44, 1, 54) :: rX11_10 r) 1 8 = 44 from rfl) ?_
  refine aw_iload_n (k' := 1) (by decide +kernel) rfl ?_
  refine aw_new (C := RX2) (T := TX2) (N := 15) (ci := 2) (idx := 23) (k := 1) (b' := (b - 346)) (t := 63) (n := 62) (q := qX11_10 q) (r := (44, 1, 54) :: rX11_10 r) tyX2 (by decide) (by decide) w (show shp 63 = (12, 0) by decide +kernel) rfl (tb_mem 91 (by decide +kernel) (by decide +kernel)) (tb_mem 92 (by decide +kernel) (by decide +kernel)) (tb_mem 6 (by decide +kernel) (by decide +kernel)) inX2 tyX2_ok (by decide +kernel) (by decide +kernel) (by decide) (by omega) (fun w => ?_)
  show AW Γ l mX11_init (d + 2) (b - 346) 120 [vR 1, vI 2] [vR 63, vI 2, vR 44] (mkw (qX11_10 q) 63 ((44, 1, 54) :: rX11_10 r)) K
  refine aw_dup (by decide +kernel) trivial ?_
  refine aw_callI (idx := 25) (y := yX2_init) (M2 := mX2_init) (as := []) (S := [vR 63, vI 2, vR 44]) (t := 63) (d2 := (d + 1)) (b2 := 30) (b3 := (b - 376)) (by decide) cwX2_init (tb_mem 93 (by decide +kernel) (by decide +kernel)) imX2_init rfl rfl (by decide +kernel) rfl (Nat.le_refl _) (by omega) rfl rfl (by simp [oneSlot]) (Nat.le_of_ble_eq_true rfl) (ct_X2 (t := 63) (q := (qX11_10 q)) (r := ((44, 1, 54) :: rX11_10 r)) (n := 63) (HI.lit (by decide +kernel)) (by decide) w (by omega) (fun w => ?_))
  have w : LW (qX11_11 q) 71 (rX11_11 r) := w
  show AW Γ l mX11_init (d + 2) (b - 376) 124 [vR 1, vI 2] [vR 63, vI 2, vR 44] (mkw (qX11_11 q) 71 (rX11_11 r)) K
  refine aw_aastH (i := 2) (t := 63) w (by decide) (by decide) (by decide +kernel) (by decide) (show shp 63 = (12, 0) by decide +kernel) (by decide) (fun w => ?_)
  show AW Γ l mX11_init (d + 2) (b - 376) 125 [vR 1, vI 2] [] (mkw (qX11_11 q) 71 ((44, 2, 63) :: rX11_11 r)) K
  refine aw_iinc (i := 1) (n := 1) (by decide +kernel) rfl (by decide) ?_
  show AW Γ l mX11_init (d + 2) (b - 376) 128 [vR 1, vI 3] [] (mkw (qX11_11 q) 71 ((44, 2, 63) :: rX11_11 r)) K
  refine aw_goto (off := -25) (tgt := 103) (by decide +kernel) (by decide) ?_
  refine aw_iload_n (k' := 1) (by decide +kernel) rfl ?_
  refine aw_aload_n (k' := 0) (by decide +kernel) rfl ?_
  refine gfX11_49 rfl (by decide +kernel) ⟨(show shp 1 = (19, 0) by decide +kernel), (show (1 : Int) ≤ ((71 : Nat) : Int) by decide)⟩ ?_
  refine AW.topR (show lkR ((44, 2, 63) :: rX11_11 r) 1 8 = 44 from rfl) ?_
  refine aw_alen (k := 4) (n := 12) (by decide +kernel) (by decide) ⟨(show shp 44 = (4, 12) by decide +kernel), (show (44 : Int) ≤ ((71 : Nat) : Int) by decide)⟩ ?_
  show AW Γ l mX11_init (d + 2) (b - 376) 109 [vR 1, vI 3] [vI 12, vI 3] (mkw (qX11_11 q) 71 ((44, 2, 63) :: rX11_11 r)) K
  refine ax_icmp_ge (off := 22) (tgt := 131) (x' := 3) (y' := 12) (by decide +kernel) (by decide) (by decide +kernel) (by decide +kernel) (fun hc => absurd hc (by decide)) (fun hc => ?_)
  refine aw_aload_n (k' := 0) (by decide +kernel) rfl ?_
  refine gfX11_49 rfl (by decide +kernel) ⟨(show shp 1 = (19, 0) by decide +kernel), (show (1 : Int) ≤ ((71 : Nat) : Int) by decide)⟩ ?_
  refine AW.topR (show lkR ((44, 2, 63) :: rX11_11 r) 1 8 = 44 from rfl) ?_
  refine aw_iload_n (k' := 1) (by decide +kernel) rfl ?_
  refine aw_new (C := RX2) (T := TX2) (N := 15) (ci := 2) (idx := 23) (k := 1) (b' := (b - 377)) (t := 72) (n := 71) (q := qX11_11 q) (r := (44, 2, 63) :: rX11_11 r) tyX2 (by decide) (by decide) w (show shp 72 = (12, 0) by decide +kernel) rfl (tb_mem 91 (by decide +kernel) (by decide +kernel)) (tb_mem 92 (by decide +kernel) (by decide +kernel)) (tb_mem 6 (by decide +kernel) (by decide +kernel)) inX2 tyX2_ok (by decide +kernel) (by decide +kernel) (by decide) (by omega) (fun w => ?_)
  show AW Γ l mX11_init (d + 2) (b - 377) 120 [vR 1, vI 3] [vR 72, vI 3, vR 44] (mkw (qX11_11 q) 72 ((44, 2, 63) :: rX11_11 r)) K
  refine aw_dup (by decide +kernel) trivial ?_
  refine aw_callI (idx := 25) (y := yX2_init) (M2 := mX2_init) (as := []) (S := [vR 72, vI 3, vR 44]) (t := 72) (d2 := (d + 1)) (b2 := 30) (b3 := (b - 407)) (by decide) cwX2_init (tb_mem 93 (by decide +kernel) (by decide +kernel)) imX2_init rfl rfl (by decide +kernel) rfl (Nat.le_refl _) (by omega) rfl rfl (by simp [oneSlot]) (Nat.le_of_ble_eq_true rfl) (ct_X2 (t := 72) (q := (qX11_11 q)) (r := ((44, 2, 63) :: rX11_11 r)) (n := 72) (HI.lit (by decide +kernel)) (by decide) w (by omega) (fun w => ?_))
  have w : LW (qX11_12 q) 80 (rX11_12 r) := w
  show AW Γ l mX11_init (d + 2) (b - 407) 124 [vR 1, vI 3] [vR 72, vI 3, vR 44] (mkw (qX11_12 q) 80 (rX11_12 r)) K
  refine aw_aastH (i := 3) (t := 72) w (by decide) (by decide) (by decide +kernel) (by decide) (show shp 72 = (12, 0) by decide +kernel) (by decide) (fun w => ?_)
  show AW Γ l mX11_init (d + 2) (b - 407) 125 [vR 1, vI 3] [] (mkw (qX11_12 q) 80 ((44, 3, 72) :: rX11_12 r)) K
  refine aw_iinc (i := 1) (n := 1) (by decide +kernel) rfl (by decide) ?_
  show AW Γ l mX11_init (d + 2) (b - 407) 128 [vR 1, vI 4] [] (mkw (qX11_12 q) 80 ((44, 3, 72) :: rX11_12 r)) K
  refine aw_goto (off := -25) (tgt := 103) (by decide +kernel) (by decide) ?_
  refine aw_iload_n (k' := 1) (by decide +kernel) rfl ?_
  refine aw_aload_n (k' := 0) (by decide +kernel) rfl ?_
  refine gfX11_49 rfl (by decide +kernel) ⟨(show shp 1 = (19, 0) by decide +kernel), (show (1 : Int) ≤ ((80 : Nat) : Int) by decide)⟩ ?_
  refine AW.topR (show lkR ((44, 3, 72) :: rX11_12 r) 1 8 = 44 from rfl) ?_
  refine aw_alen (k := 4) (n := 12) (by decide +kernel) (by decide) ⟨(show shp 44 = (4, 12) by decide +kernel), (show (44 : Int) ≤ ((80 : Nat) : Int) by decide)⟩ ?_
  show AW Γ l mX11_init (d + 2) (b - 407) 109 [vR 1, vI 4] [vI 12, vI 4] (mkw (qX11_12 q) 80 ((44, 3, 72) :: rX11_12 r)) K
  refine ax_icmp_ge (off := 22) (tgt := 131) (x' := 4) (y' := 12) (by decide +kernel) (by decide) (by decide +kernel) (by decide +kernel) (fun hc => absurd hc (by decide)) (fun hc => ?_)
  refine aw_aload_n (k' := 0) (by decide +kernel) rfl ?_
  refine gfX11_49 rfl (by decide +kernel) ⟨(show shp 1 = (19, 0) by decide +kernel), (show (1 : Int) ≤ ((80 : Nat) : Int) by decide)⟩ ?_
  refine AW.topR (show lkR ((44, 3, 72) :: rX11_12 r) 1 8 = 44 from rfl) ?_
  refine aw_iload_n (k' := 1) (by decide +kernel) rfl ?_
  refine aw_new (C := RX2) (T := TX2) (N := 15) (ci := 2) (idx := 23) (k := 1) (b' := (b - 408)) (t := 81) (n := 80) (q := qX11_12 q) (r := (44, 3, 72) :: rX11_12 r) tyX2 (by decide) (by decide) w (show shp 81 = (12, 0) by decide +kernel) rfl (tb_mem 91 (by decide +kernel) (by decide +kernel)) (tb_mem 92 (by decide +kernel) (by decide +kernel)) (tb_mem 6 (by decide +kernel) (by decide +kernel)) inX2 tyX2_ok (by decide +kernel) (by decide +kernel) (by decide) (by omega) (fun w => ?_)
  show AW Γ l mX11_init (d + 2) (b - 408) 120 [vR 1, vI 4] [vR 81, vI 4, vR 44] (mkw (qX11_12 q) 81 ((44, 3, 72) :: rX11_12 r)) K
  refine aw_dup (by decide +kernel) trivial ?_
  refine aw_callI (idx := 25) (y := yX2_init) (M2 := mX2_init) (as := []) (S := [vR 81, vI 4, vR 44]) (t := 81) (d2 := (d + 1)) (b2 := 30) (b3 := (b - 438)) (by decide) cwX2_init (tb_mem 93 (by decide +kernel) (by decide +kernel)) imX2_init rfl rfl (by decide +kernel) rfl (Nat.le_refl _) (by omega) rfl rfl (by simp [oneSlot]) (Nat.le_of_ble_eq_true rfl) (ct_X2 (t := 81) (q := (qX11_12 q)) (r := ((44, 3, 72) :: rX11_12 r)) (n := 81) (HI.lit (by decide +kernel)) (by decide) w (by omega) (fun w => ?_))
  have w : LW (qX11_13 q) 89 (rX11_13 r) := w
  show AW Γ l mX11_init (d + 2) (b - 438) 124 [vR 1, vI 4] [vR 81, vI 4, vR 44] (mkw (qX11_13 q) 89 (rX11_13 r)) K
  refine aw_aastH (i := 4) (t := 81) w (by decide) (by decide) (by decide +kernel) (by decide) (show shp 81 = (12, 0) by decide +kernel) (by decide) (fun w => ?_)
  show AW Γ l mX11_init (d + 2) (b - 438) 125 [vR 1, vI 4] [] (mkw (qX11_13 q) 89 ((44, 4, 81) :: rX11_13 r)) K
  refine aw_iinc (i := 1) (n := 1) (by decide +kernel) rfl (by decide) ?_
  show AW Γ l mX11_init (d + 2) (b - 438) 128 [vR 1, vI 5] [] (mkw (qX11_13 q) 89 ((44, 4, 81) :: rX11_13 r)) K
  refine aw_goto (off := -25) (tgt := 103) (by decide +kernel) (by decide) ?_
  refine aw_iload_n (k' := 1) (by decide +kernel) rfl ?_
  refine aw_aload_n (k' := 0) (by decide +kernel) rfl ?_
  refine gfX11_49 rfl (by decide +kernel) ⟨(show shp 1 = (19, 0) by decide +kernel), (show (1 : Int) ≤ ((89 : Nat) : Int) by decide)⟩ ?_
  refine AW.topR (show lkR ((44, 4, 81) :: rX11_13 r) 1 8 = 44 from rfl) ?_
  refine aw_alen (k := 4) (n := 12) (by decide +kernel) (by decide) ⟨(show shp 44 = (4, 12) by decide +kernel), (show (44 : Int) ≤ ((89 : Nat) : Int) by decide)⟩ ?_
  show AW Γ l mX11_init (d + 2) (b - 438) 109 [vR 1, vI 5] [vI 12, vI 5] (mkw (qX11_13 q) 89 ((44, 4, 81) :: rX11_13 r)) K
  refine ax_icmp_ge (off := 22) (tgt := 131) (x' := 5) (y' := 12) (by decide +kernel) (by decide) (by decide +kernel) (by decide +kernel) (fun hc => absurd hc (by decide)) (fun hc => ?_)
  refine aw_aload_n (k' := 0) (by decide +kernel) rfl ?_
  refine gfX11_49 rfl (by decide +kernel) ⟨(show shp 1 = (19, 0) by decide +kernel), (show (1 : Int) ≤ ((89 : Nat) : Int) by decide)⟩ ?_
  refine AW.topR (show lkR ((44, 4, 81) :: rX11_13 r) 1 8 = 44 from rfl) ?_
  refine aw_iload_n (k' := 1) (by decide +kernel) rfl ?_
  refine aw_new (C := RX2) (T := TX2) (N := 15) (ci := 2) (idx := 23) (k := 1) (b' := (b - 439)) (t := 90) (n := 89) (q := qX11_13 q) (r := (44, 4, 81) :: rX11_13 r) tyX2 (by decide) (by decide) w (show shp 90 = (12, 0) by decide +kernel) rfl (tb_mem 91 (by decide +kernel) (by decide +kernel)) (tb_mem 92 (by decide +kernel) (by decide +kernel)) (tb_mem 6 (by decide +kernel) (by decide +kernel)) inX2 tyX2_ok (by decide +kernel) (by decide +kernel) (by decide) (by omega) (fun w => ?_)
  show AW Γ l mX11_init (d + 2) (b - 439) 120 [vR 1, vI 5] [vR 90, vI 5, vR 44] (mkw (qX11_13 q) 90 ((44, 4, 81) :: rX11_13 r)) K
  refine aw_dup (by decide +kernel) trivial ?_
  refine aw_callI (idx := 25) (y := yX2_init) (M2 := mX2_init) (as := []) (S := [vR 90, vI 5, vR 44]) (t := 90) (d2 := (d + 1)) (b2 := 30) (b3 := (b - 469)) (by decide) cwX2_init (tb_mem 93 (by decide +kernel) (by decide +kernel)) imX2_init rfl rfl (by decide +kernel) rfl (Nat.le_refl _) (by omega) rfl rfl (by simp [oneSlot]) (Nat.le_of_ble_eq_true rfl) (ct_X2 (t := 90) (q := (qX11_13 q)) (r := ((44, 4, 81) :: rX11_13 r)) (n := 90) (HI.lit (by decide +kernel)) (by decide) w (by omega) (fun w => ?_))
  have w : LW (qX11_14 q) 98 (rX11_14 r) := w
  show AW Γ l mX11_init (d + 2) (b - 469) 124 [vR 1, vI 5] [vR 90, vI 5, vR 44] (mkw (qX11_14 q) 98 (rX11_14 r)) K
  refine aw_aastH (i := 5) (t := 90) w (by decide) (by decide) (by decide +kernel) (by decide) (show shp 90 = (12, 0) by decide +kernel) (by decide) (fun w => ?_)
  show AW Γ l mX11_init (d + 2) (b - 469) 125 [vR 1, vI 5] [] (mkw (qX11_14 q) 98 ((44, 5, 90) :: rX11_14 r)) K
  refine aw_iinc (i := 1) (n := 1) (by decide +kernel) rfl (by decide) ?_
  show AW Γ l mX11_init (d + 2) (b - 469) 128 [vR 1, vI 6] [] (mkw (qX11_14 q) 98 ((44, 5, 90) :: rX11_14 r)) K
  refine aw_goto (off := -25) (tgt := 103) (by decide +kernel) (by decide) ?_
  refine aw_iload_n (k' := 1) (by decide +kernel) rfl ?_
  refine aw_aload_n (k' := 0) (by decide +kernel) rfl ?_
  refine gfX11_49 rfl (by decide +kernel) ⟨(show shp 1 = (19, 0) by decide +kernel), (show (1 : Int) ≤ ((98 : Nat) : Int) by decide)⟩ ?_
  refine AW.topR (show lkR ((44, 5, 90) :: rX11_14 r) 1 8 = 44 from rfl) ?_
  refine aw_alen (k := 4) (n := 12) (by decide +kernel) (by decide) ⟨(show shp 44 = (4, 12) by decide +kernel), (show (44 : Int) ≤ ((98 : Nat) : Int) by decide)⟩ ?_
  show AW Γ l mX11_init (d + 2) (b - 469) 109 [vR 1, vI 6] [vI 12, vI 6] (mkw (qX11_14 q) 98 ((44, 5, 90) :: rX11_14 r)) K
  refine ax_icmp_ge (off := 22) (tgt := 131) (x' := 6) (y' := 12) (by decide +kernel) (by decide) (by decide +kernel) (by decide +kernel) (fun hc => absurd hc (by decide)) (fun hc => ?_)
  refine aw_aload_n (k' := 0) (by decide +kernel) rfl ?_
  refine gfX11_49 rfl (by decide +kernel) ⟨(show shp 1 = (19, 0) by decide +kernel), (show (1 : Int) ≤ ((98 : Nat) : Int) by decide)⟩ ?_
  refine AW.topR (show lkR ((44, 5, 90) :: rX11_14 r) 1 8 = 44 from rfl) ?_
  refine aw_iload_n (k' := 1) (by decide +kernel) rfl ?_
  refine aw_new (C := RX2) (T := TX2) (N := 15) (ci := 2) (idx := 23) (k := 1) (b' := (b - 470)) (t := 99) (n := 98) (q := qX11_14 q) (r := (44, 5, 90) :: rX11_14 r) tyX2 (by decide) (by decide) w (show shp 99 = (12, 0) by decide +kernel) rfl (tb_mem 91 (by decide +kernel) (by decide +kernel)) (tb_mem 92 (by decide +kernel) (by decide +kernel)) (tb_mem 6 (by decide +kernel) (by decide +kernel)) inX2 tyX2_ok (by decide +kernel) (by decide +kernel) (by decide) (by omega) (fun w => ?_)
  show AW Γ l mX11_init (d + 2) (b - 470) 120 [vR 1, vI 6] [vR 99, vI 6, vR 44] (mkw (qX11_14 q) 99 ((44, 5, 90) :: rX11_14 r)) K
  refine aw_dup (by decide +kernel) trivial ?_
  refine aw_callI (idx := 25) (y := yX2_init) (M2 := mX2_init) (as := []) (S := [vR 99, vI 6, vR 44]) (t := 99) (d2 := (d + 1)) (b2 := 30) (b3 := (b - 500)) (by decide) cwX2_init (tb_mem 93 (by decide +kernel) (by decide +kernel)) imX2_init rfl rfl (by decide +kernel) rfl (Nat.le_refl _) (by omega) rfl rfl (by simp [oneSlot]) (Nat.le_of_ble_eq_true rfl) (ct_X2 (t := 99) (q := (qX11_14 q)) (r := ((44, 5, 90) :: rX11_14 r)) (n := 99) (HI.lit (by decide +kernel)) (by decide) w (by omega) (fun w => ?_))
  have w : LW (qX11_15 q) 107 (rX11_15 r) := w
  show AW Γ l mX11_init (d + 2) (b - 500) 124 [vR 1, vI 6] [vR 99, vI 6, vR 44] (mkw (qX11_15 q) 107 (rX11_15 r)) K
  refine aw_aastH (i := 6) (t := 99) w (by decide) (by decide) (by decide +kernel) (by decide) (show shp 99 = (12, 0) by decide +kernel) (by decide) (fun w => ?_)
  show AW Γ l mX11_init (d + 2) (b - 500) 125 [vR 1, vI 6] [] (mkw (qX11_15 q) 107 ((44, 6, 99) :: rX11_15 r)) K
  refine aw_iinc (i := 1) (n := 1) (by decide +kernel) rfl (by decide) ?_
  show AW Γ l mX11_init (d + 2) (b - 500) 128 [vR 1, vI 7] [] (mkw (qX11_15 q) 107 ((44, 6, 99) :: rX11_15 r)) K
  refine aw_goto (off := -25) (tgt := 103) (by decide +kernel) (by decide) ?_
  refine aw_iload_n (k' := 1) (by decide +kernel) rfl ?_
  refine aw_aload_n (k' := 0) (by decide +kernel) rfl ?_
  refine gfX11_49 rfl (by decide +kernel) ⟨(show shp 1 = (19, 0) by decide +kernel), (show (1 : Int) ≤ ((107 : Nat) : Int) by decide)⟩ ?_
  refine AW.topR (show lkR ((44, 6, 99) :: rX11_15 r) 1 8 = 44 from rfl) ?_
  refine aw_alen (k := 4) (n := 12) (by decide +kernel) (by decide) ⟨(show shp 44 = (4, 12) by decide +kernel), (show (44 : Int) ≤ ((107 : Nat) : Int) by decide)⟩ ?_
  show AW Γ l mX11_init (d + 2) (b - 500) 109 [vR 1, vI 7] [vI 12, vI 7] (mkw (qX11_15 q) 107 ((44, 6, 99) :: rX11_15 r)) K
  refine ax_icmp_ge (off := 22) (tgt := 131) (x' := 7) (y' := 12) (by decide +kernel) (by decide) (by decide +kernel) (by decide +kernel) (fun hc => absurd hc (by decide)) (fun hc => ?_)
  refine aw_aload_n (k' := 0) (by decide +kernel) rfl ?_
  refine gfX11_49 rfl (by decide +kernel) ⟨(show shp 1 = (19, 0) by decide +kernel), (show (1 : Int) ≤ ((107 : Nat) : Int) by decide)⟩ ?_
  refine AW.topR (show lkR ((44, 6, 99) :: rX11_15 r) 1 8 = 44 from rfl) ?_
  refine aw_iload_n (k' := 1) (by decide +kernel) rfl ?_
  refine aw_new (C := RX2) (T := TX2) (N := 15) (ci := 2) (idx := 23) (k := 1) (b' := (b - 501)) (t := 108) (n := 107) (q := qX11_15 q) (r := (44, 6, 99) :: rX11_15 r) tyX2 (by decide) (by decide) w (show shp 108 = (12, 0) by decide +kernel) rfl (tb_mem 91 (by decide +kernel) (by decide +kernel)) (tb_mem 92 (by decide +kernel) (by decide +kernel)) (tb_mem 6 (by decide +kernel) (by decide +kernel)) inX2 tyX2_ok (by decide +kernel) (by decide +kernel) (by decide) (by omega) (fun w => ?_)
  show AW Γ l mX11_init (d + 2) (b - 501) 120 [vR 1, vI 7] [vR 108, vI 7, vR 44] (mkw (qX11_15 q) 108 ((44, 6, 99) :: rX11_15 r)) K
  refine aw_dup (by decide +kernel) trivial ?_
  refine aw_callI (idx := 25) (y := yX2_init) (M2 := mX2_init) (as := []) (S := [vR 108, vI 7, vR 44]) (t := 108) (d2 := (d + 1)) (b2 := 30) (b3 := (b - 531)) (by decide) cwX2_init (tb_mem 93 (by decide +kernel) (by decide +kernel)) imX2_init rfl rfl (by decide +kernel) rfl (Nat.le_refl _) (by omega) rfl rfl (by simp [oneSlot]) (Nat.le_of_ble_eq_true rfl) (ct_X2 (t := 108) (q := (qX11_15 q)) (r := ((44, 6, 99) :: rX11_15 r)) (n := 108) (HI.lit (by decide +kernel)) (by decide) w (by omega) (fun w => ?_))
  have w : LW (qX11_16 q) 116 (rX11_16 r) := w
  show AW Γ l mX11_init (d + 2) (b - 531) 124 [vR 1, vI 7] [vR 108, vI 7, vR 44] (mkw (qX11_16 q) 116 (rX11_16 r)) K
  refine aw_aastH (i := 7) (t := 108) w (by decide) (by decide) (by decide +kernel) (by decide) (show shp 108 = (12, 0) by decide +kernel) (by decide) (fun w => ?_)
  show AW Γ l mX11_init (d + 2) (b - 531) 125 [vR 1, vI 7] [] (mkw (qX11_16 q) 116 ((44, 7, 108) :: rX11_16 r)) K
  refine aw_iinc (i := 1) (n := 1) (by decide +kernel) rfl (by decide) ?_
  show AW Γ l mX11_init (d + 2) (b - 531) 128 [vR 1, vI 8] [] (mkw (qX11_16 q) 116 ((44, 7, 108) :: rX11_16 r)) K
  refine aw_goto (off := -25) (tgt := 103) (by decide +kernel) (by decide) ?_
  refine aw_iload_n (k' := 1) (by decide +kernel) rfl ?_
  refine aw_aload_n (k' := 0) (by decide +kernel) rfl ?_
  refine gfX11_49 rfl (by decide +kernel) ⟨(show shp 1 = (19, 0) by decide +kernel), (show (1 : Int) ≤ ((116 : Nat) : Int) by decide)⟩ ?_
  refine AW.topR (show lkR ((44, 7, 108) :: rX11_16 r) 1 8 = 44 from rfl) ?_
  refine aw_alen (k := 4) (n := 12) (by decide +kernel) (by decide) ⟨(show shp 44 = (4, 12) by decide +kernel), (show (44 : Int) ≤ ((116 : Nat) : Int) by decide)⟩ ?_
  show AW Γ l mX11_init (d + 2) (b - 531) 109 [vR 1, vI 8] [vI 12, vI 8] (mkw (qX11_16 q) 116 ((44, 7, 108) :: rX11_16 r)) K
  refine ax_icmp_ge (off := 22) (tgt := 131) (x' := 8) (y' := 12) (by decide +kernel) (by decide) (by decide +kernel) (by decide +kernel) (fun hc => absurd hc (by decide)) (fun hc => ?_)
  refine aw_aload_n (k' := 0) (by decide +kernel) rfl ?_
  refine gfX11_49 rfl (by decide +kernel) ⟨(show shp 1 = (19, 0) by decide +kernel), (show (1 : Int) ≤ ((116 : Nat) : Int) by decide)⟩ ?_
  refine AW.topR (show lkR ((44, 7, 108) :: rX11_16 r) 1 8 = 44 from rfl) ?_
  refine aw_iload_n (k' := 1) (by decide +kernel) rfl ?_
  refine aw_new (C := RX2) (T := TX2) (N := 15) (ci := 2) (idx := 23) (k := 1) (b' := (b - 532)) (t := 117) (n := 116) (q := qX11_16 q) (r := (44, 7, 108) :: rX11_16 r) tyX2 (by decide) (by decide) w (show shp 117 = (12, 0) by decide +kernel) rfl (tb_mem 91 (by decide +kernel) (by decide +kernel)) (tb_mem 92 (by decide +kernel) (by decide +kernel)) (tb_mem 6 (by decide +kernel) (by decide +kernel)) inX2 tyX2_ok (by decide +kernel) (by decide +kernel) (by decide) (by omega) (fun w => ?_)
  show AW Γ l mX11_init (d + 2) (b - 532) 120 [vR 1, vI 8] [vR 117, vI 8, vR 44] (mkw (qX11_16 q) 117 ((44, 7, 108) :: rX11_16 r)) K
  refine aw_dup (by decide +kernel) trivial ?_
  refine aw_callI (idx := 25) (y := yX2_init) (M2 := mX2_init) (as := []) (S := [vR 117, vI 8, vR 44]) (t := 117) (d2 := (d + 1)) (b2 := 30) (b3 := (b - 562)) (by decide) cwX2_init (tb_mem 93 (by decide +kernel) (by decide +kernel)) imX2_init rfl rfl (by decide +kernel) rfl (Nat.le_refl _) (by omega) rfl rfl (by simp [oneSlot]) (Nat.le_of_ble_eq_true rfl) (ct_X2 (t := 117) (q := (qX11_16 q)) (r := ((44, 7, 108) :: rX11_16 r)) (n := 117) (HI.lit (by decide +kernel)) (by decide) w (by omega) (fun w => ?_))
  have w : LW (qX11_17 q) 125 (rX11_17 r) := w
  show AW Γ l mX11_init (d + 2) (b - 562) 124 [vR 1, vI 8] [vR 117, vI 8, vR 44] (mkw (qX11_17 q) 125 (rX11_17 r)) K
  refine aw_aastH (i := 8) (t := 117) w (by decide) (by decide) (by decide +kernel) (by decide) (show shp 117 = (12, 0) by decide +kernel) (by decide) (fun w => ?_)
  show AW Γ l mX11_init (d + 2) (b - 562) 125 [vR 1, vI 8] [] (mkw (qX11_17 q) 125 ((44, 8, 117) :: rX11_17 r)) K
  refine aw_iinc (i := 1) (n := 1) (by decide +kernel) rfl (by decide) ?_
  show AW Γ l mX11_init (d + 2) (b - 562) 128 [vR 1, vI 9] [] (mkw (qX11_17 q) 125 ((44, 8, 117) :: rX11_17 r)) K
  refine aw_goto (off := -25) (tgt := 103) (by decide +kernel) (by decide) ?_
  refine aw_iload_n (k' := 1) (by decide +kernel) rfl ?_
  refine aw_aload_n (k' := 0) (by decide +kernel) rfl ?_
  refine gfX11_49 rfl (by decide +kernel) ⟨(show shp 1 = (19, 0) by decide +kernel), (show (1 : Int) ≤ ((125 : Nat) : Int) by decide)⟩ ?_
  refine AW.topR (show lkR ((44, 8, 117) :: rX11_17 r) 1 8 = 44 from rfl) ?_
  refine aw_alen (k := 4) (n := 12) (by decide +kernel) (by decide) ⟨(show shp 44 = (4, 12) by decide +kernel), (show (44 : Int) ≤ ((125 : Nat) : Int) by decide)⟩ ?_
  show AW Γ l mX11_init (d + 2) (b - 562) 109 [vR 1, vI 9] [vI 12, vI 9] (mkw (qX11_17 q) 125 ((44, 8, 117) :: rX11_17 r)) K
  refine ax_icmp_ge (off := 22) (tgt := 131) (x' := 9) (y' := 12) (by decide +kernel) (by decide) (by decide +kernel) (by decide +kernel) (fun hc => absurd hc (by decide)) (fun hc => ?_)
  refine aw_aload_n (k' := 0) (by decide +kernel) rfl ?_
  refine gfX11_49 rfl (by decide +kernel) ⟨(show shp 1 = (19, 0) by decide +kernel), (show (1 : Int) ≤ ((125 : Nat) : Int) by decide)⟩ ?_
  refine AW.topR (show lkR ((44, 8, 117) :: rX11_17 r) 1 8 = 44 from rfl) ?_
  refine aw_iload_n (k' := 1) (by decide +kernel) rfl ?_
  refine aw_new (C := RX2) (T := TX2) (N := 15) (ci := 2) (idx := 23) (k := 1) (b' := (b - 563)) (t := 126) (n := 125) (q := qX11_17 q) (r := (44, 8, 117) :: rX11_17 r) tyX2 (by decide) (by decide) w (show shp 126 = (12, 0) by decide +kernel) rfl (tb_mem 91 (by decide +kernel) (by decide +kernel)) (tb_mem 92 (by decide +kernel) (by decide +kernel)) (tb_mem 6 (by decide +kernel) (by decide +kernel)) inX2 tyX2_ok (by decide +kernel) (by decide +kernel) (by decide) (by omega) (fun w => ?_)
  show AW Γ l mX11_init (d + 2) (b - 563) 120 [vR 1, vI 9] [vR 126, vI 9, vR 44] (mkw (qX11_17 q) 126 ((44, 8, 117) :: rX11_17 r)) K
  refine aw_dup (by decide +kernel) trivial ?_
  refine aw_callI (idx := 25) (y := yX2_init) (M2 := mX2_init) (as := []) (S := [vR 126, vI 9, vR 44]) (t := 126) (d2 := (d + 1)) (b2 := 30) (b3 := (b - 593)) (by decide) cwX2_init (tb_mem 93 (by decide +kernel) (by decide +kernel)) imX2_init rfl rfl (by decide +kernel) rfl (Nat.le_refl _) (by omega) rfl rfl (by simp [oneSlot]) (Nat.le_of_ble_eq_true rfl) (ct_X2 (t := 126) (q := (qX11_17 q)) (r := ((44, 8, 117) :: rX11_17 r)) (n := 126) (HI.lit (by decide +kernel)) (by decide) w (by omega) (fun w => ?_))
  have w : LW (qX11_18 q) 134 (rX11_18 r) := w
  show AW Γ l mX11_init (d + 2) (b - 593) 124 [vR 1, vI 9] [vR 126, vI 9, vR 44] (mkw (qX11_18 q) 134 (rX11_18 r)) K
  refine aw_aastH (i := 9) (t := 126) w (by decide) (by decide) (by decide +kernel) (by decide) (show shp 126 = (12, 0) by decide +kernel) (by decide) (fun w => ?_)
  show AW Γ l mX11_init (d + 2) (b - 593) 125 [vR 1, vI 9] [] (mkw (qX11_18 q) 134 ((44, 9, 126) :: rX11_18 r)) K
  refine aw_iinc (i := 1) (n := 1) (by decide +kernel) rfl (by decide) ?_
  show AW Γ l mX11_init (d + 2) (b - 593) 128 [vR 1, vI 10] [] (mkw (qX11_18 q) 134 ((44, 9, 126) :: rX11_18 r)) K
  refine aw_goto (off := -25) (tgt := 103) (by decide +kernel) (by decide) ?_
  refine aw_iload_n (k' := 1) (by decide +kernel) rfl ?_
  refine aw_aload_n (k' := 0) (by decide +kernel) rfl ?_
  refine gfX11_49 rfl (by decide +kernel) ⟨(show shp 1 = (19, 0) by decide +kernel), (show (1 : Int) ≤ ((134 : Nat) : Int) by decide)⟩ ?_
  refine AW.topR (show lkR ((44, 9, 126) :: rX11_18 r) 1 8 = 44 from rfl) ?_
  refine aw_alen (k := 4) (n := 12) (by decide +kernel) (by decide) ⟨(show shp 44 = (4, 12) by decide +kernel), (show (44 : Int) ≤ ((134 : Nat) : Int) by decide)⟩ ?_
  show AW Γ l mX11_init (d + 2) (b - 593) 109 [vR 1, vI 10] [vI 12, vI 10] (mkw (qX11_18 q) 134 ((44, 9, 126) :: rX11_18 r)) K
  refine ax_icmp_ge (off := 22) (tgt := 131) (x' := 10) (y' := 12) (by decide +kernel) (by decide) (by decide +kernel) (by decide +kernel) (fun hc => absurd hc (by decide)) (fun hc => ?_)
  refine aw_aload_n (k' := 0) (by decide +kernel) rfl ?_
  refine gfX11_49 rfl (by decide +kernel) ⟨(show shp 1 = (19, 0) by decide +kernel), (show (1 : Int) ≤ ((134 : Nat) : Int) by decide)⟩ ?_
  refine AW.topR (show lkR ((44, 9, 126) :: rX11_18 r) 1 8 = 44 from rfl) ?_
  refine aw_iload_n (k' := 1) (by decide +kernel) rfl ?_
  refine aw_new (C := RX2) (T := TX2) (N := 15) (ci := 2) (idx := 23) (k := 1) (b' := (b - 594)) (t := 135) (n := 134) (q := qX11_18 q) (r := (44, 9, 126) :: rX11_18 r) tyX2 (by decide) (by decide) w (show shp 135 = (12, 0) by decide +kernel) rfl (tb_mem 91 (by decide +kernel) (by decide +kernel)) (tb_mem 92 (by decide +kernel) (by decide +kernel)) (tb_mem 6 (by decide +kernel) (by decide +kernel)) inX2 tyX2_ok (by decide +kernel) (by decide +kernel) (by decide) (by omega) (fun w => ?_)
  show AW Γ l mX11_init (d + 2) (b - 594) 120 [vR 1, vI 10] [vR 135, vI 10, vR 44] (mkw (qX11_18 q) 135 ((44, 9, 126) :: rX11_18 r)) K
  refine aw_dup (by decide +kernel) trivial ?_
  refine aw_callI (idx := 25) (y := yX2_init) (M2 := mX2_init) (as := []) (S := [vR 135, vI 10, vR 44]) (t := 135) (d2 := (d + 1)) (b2 := 30) (b3 := (b - 624)) (by decide) cwX2_init (tb_mem 93 (by decide +kernel) (by decide +kernel)) imX2_init rfl rfl (by decide +kernel) rfl (Nat.le_refl _) (by omega) rfl rfl (by simp [oneSlot]) (Nat.le_of_ble_eq_true rfl) (ct_X2 (t := 135) (q := (qX11_18 q)) (r := ((44, 9, 126) :: rX11_18 r)) (n := 135) (HI.lit (by decide +kernel)) (by decide) w (by omega) (fun w => ?_))
  have w : LW (qX11_19 q) 143 (rX11_19 r) := w
  show AW Γ l mX11_init (d + 2) (b - 624) 124 [vR 1, vI 10] [vR 135, vI 10, vR 44] (mkw (qX11_19 q) 143 (rX11_19 r)) K
  refine aw_aastH (i := 10) (t := 135) w (by decide) (by decide) (by decide +kernel) (by decide) (show shp 135 = (12, 0) by decide +kernel) (by decide) (fun w => ?_)
  show AW Γ l mX11_init (d + 2) (b - 624) 125 [vR 1, vI 10] [] (mkw (qX11_19 q) 143 ((44, 10, 135) :: rX11_19 r)) K
  refine aw_iinc (i := 1) (n := 1) (by decide +kernel) rfl (by decide) ?_
  show AW Γ l mX11_init (d + 2) (b - 624) 128 [vR 1, vI 11] [] (mkw (qX11_19 q) 143 ((44, 10, 135) :: rX11_19 r)) K
  refine aw_goto (off := -25) (tgt := 103) (by decide +kernel) (by decide) ?_
  refine aw_iload_n (k' := 1) (by decide +kernel) rfl ?_
  refine aw_aload_n (k' := 0) (by decide +kernel) rfl ?_
  refine gfX11_49 rfl (by decide +kernel) ⟨(show shp 1 = (19, 0) by decide +kernel), (show (1 : Int) ≤ ((143 : Nat) : Int) by decide)⟩ ?_
  refine AW.topR (show lkR ((44, 10, 135) :: rX11_19 r) 1 8 = 44 from rfl) ?_
  refine aw_alen (k := 4) (n := 12) (by decide +kernel) (by decide) ⟨(show shp 44 = (4, 12) by decide +kernel), (show (44 : Int) ≤ ((143 : Nat) : Int) by decide)⟩ ?_
  show AW Γ l mX11_init (d + 2) (b - 624) 109 [vR 1, vI 11] [vI 12, vI 11] (mkw (qX11_19 q) 143 ((44, 10, 135) :: rX11_19 r)) K
  refine ax_icmp_ge (off := 22) (tgt := 131) (x' := 11) (y' := 12) (by decide +kernel) (by decide) (by decide +kernel) (by decide +kernel) (fun hc => absurd hc (by decide)) (fun hc => ?_)
  refine aw_aload_n (k' := 0) (by decide +kernel) rfl ?_
  refine gfX11_49 rfl (by decide +kernel) ⟨(show shp 1 = (19, 0) by decide +kernel), (show (1 : Int) ≤ ((143 : Nat) : Int) by decide)⟩ ?_
  refine AW.topR (show lkR ((44, 10, 135) :: rX11_19 r) 1 8 = 44 from rfl) ?_
  refine aw_iload_n (k' := 1) (by decide +kernel) rfl ?_
  refine aw_new (C := RX2) (T := TX2) (N := 15) (ci := 2) (idx := 23) (k := 1) (b' := (b - 625)) (t := 144) (n := 143) (q := qX11_19 q) (r := (44, 10, 135) :: rX11_19 r) tyX2 (by decide) (by decide) w (show shp 144 = (12, 0) by decide +kernel) rfl (tb_mem 91 (by decide +kernel) (by decide +kernel)) (tb_mem 92 (by decide +kernel) (by decide +kernel)) (tb_mem 6 (by decide +kernel) (by decide +kernel)) inX2 tyX2_ok (by decide +kernel) (by decide +kernel) (by decide) (by omega) (fun w => ?_)
  show AW Γ l mX11_init (d + 2) (b - 625) 120 [vR 1, vI 11] [vR 144, vI 11, vR 44] (mkw (qX11_19 q) 144 ((44, 10, 135) :: rX11_19 r)) K
  refine aw_dup (by decide +kernel) trivial ?_
  refine aw_callI (idx := 25) (y := yX2_init) (M2 := mX2_init) (as := []) (S := [vR 144, vI 11, vR 44]) (t := 144) (d2 := (d + 1)) (b2 := 30) (b3 := (b - 655)) (by decide) cwX2_init (tb_mem 93 (by decide +kernel) (by decide +kernel)) imX2_init rfl rfl (by decide +kernel) rfl (Nat.le_refl _) (by omega) rfl rfl (by simp [oneSlot]) (Nat.le_of_ble_eq_true rfl) (ct_X2 (t := 144) (q := (qX11_19 q)) (r := ((44, 10, 135) :: rX11_19 r)) (n := 144) (HI.lit (by decide +kernel)) (by decide) w (by omega) (fun w => ?_))
  have w : LW (qX11_20 q) 152 (rX11_20 r) := w
  show AW Γ l mX11_init (d + 2) (b - 655) 124 [vR 1, vI 11] [vR 144, vI 11, vR 44] (mkw (qX11_20 q) 152 (rX11_20 r)) K
  refine aw_aastH (i := 11) (t := 144) w (by decide) (by decide) (by decide +kernel) (by decide) (show shp 144 = (12, 0) by decide +kernel) (by decide) (fun w => ?_)
  show AW Γ l mX11_init (d + 2) (b - 655) 125 [vR 1, vI 11] [] (mkw (qX11_20 q) 152 ((44, 11, 144) :: rX11_20 r)) K
  refine aw_iinc (i := 1) (n := 1) (by decide +kernel) rfl (by decide) ?_
  show AW Γ l mX11_init (d + 2) (b - 655) 128 [vR 1, vI 12] [] (mkw (qX11_20 q) 152 ((44, 11, 144) :: rX11_20 r)) K
  refine aw_goto (off := -25) (tgt := 103) (by decide +kernel) (by decide) ?_
  refine aw_iload_n (k' := 1) (by decide +kernel) rfl ?_
  refine aw_aload_n (k' := 0) (by decide +kernel) rfl ?_
  refine gfX11_49 rfl (by decide +kernel) ⟨(show shp 1 = (19, 0) by decide +kernel), (show (1 : Int) ≤ ((152 : Nat) : Int) by decide)⟩ ?_
  refine AW.topR (show lkR ((44, 11, 144) :: rX11_20 r) 1 8 = 44 from rfl) ?_
  refine aw_alen (k := 4) (n := 12) (by decide +kernel) (by decide) ⟨(show shp 44 = (4, 12) by decide +kernel), (show (44 : Int) ≤ ((152 : Nat) : Int) by decide)⟩ ?_
  show AW Γ l mX11_init (d + 2) (b - 655) 109 [vR 1, vI 12] [vI 12, vI 12] (mkw (qX11_20 q) 152 ((44, 11, 144) :: rX11_20 r)) K
  refine ax_icmp_ge (off := 22) (tgt := 131) (x' := 12) (y' := 12) (by decide +kernel) (by decide) (by decide +kernel) (by decide +kernel) (fun hc => ?_) (fun hc => absurd (by decide) hc)
  refine aw_aload_n (k' := 0) (by decide +kernel) rfl ?_
  refine aw_new (C := RX7) (T := TX7) (N := 4) (ci := 6) (idx := 53) (k := 1) (b' := (b - 656)) (t := 153) (n := 152) (q := qX11_20 q) (r := (44, 11, 144) :: rX11_20 r) tyX7 (by decide) (by decide) w (show shp 153 = (16, 0) by decide +kernel) rfl (tb_mem 218 (by decide +kernel) (by decide +kernel)) (tb_mem 219 (by decide +kernel) (by decide +kernel)) (tb_mem 8 (by decide +kernel) (by decide +kernel)) inX7 tyX7_ok (by decide +kernel) (by decide +kernel) (by decide) (by omega) (fun w => ?_)
  show AW Γ l mX11_init (d + 2) (b - 656) 135 [vR 1, vI 12] [vR 153, vR 1] (mkw (qX11_20 q) 153 ((44, 11, 144) :: rX11_20 r)) K
  refine aw_dup (by decide +kernel) trivial ?_
  refine aw_aload_n (k' := 0) (by decide +kernel) rfl ?_
  refine gfX11_39 rfl (by decide +kernel) ⟨(show shp 1 = (19, 0) by decide +kernel), (show (1 : Int) ≤ ((153 : Nat) : Int) by decide)⟩ ?_
  refine AW.topR (show lkR ((44, 11, 144) :: rX11_20 r) 1 5 = 35 from rfl) ?_
  refine aw_callI (idx := 55) (y := yX7_init) (M2 := mX7_init) (as := [vR 35]) (S := [vR 153, vR 1]) (t := 153) (d2 := (d + 1)) (b2 := 6) (b3 := (b - 662)) (by decide) cwX7_init (tb_mem 220 (by decide +kernel) (by decide +kernel)) imX7_init rfl rfl (by decide +kernel) rfl (Nat.le_refl _) (by omega) rfl rfl (by simp [oneSlot]) (Nat.le_of_ble_eq_true rfl) (ct_X7 (q := (qX11_20 q)) (r := ((44, 11, 144) :: rX11_20 r)) w (by omega) (fun w => ?_))
  have w : LW (qX11_21 q) 159 (rX11_21 r) := w
  show AW Γ l mX11_init (d + 2) (b - 662) 143 [vR 1, vI 12] [vR 153, vR 1] (mkw (qX11_21 q) 159 (rX11_21 r)) K
  refine aw_putR (C := RX11) (T := TX11) (N := 18) (ci := 9) (idx := 58) (k := 9) (j := 9) tyX11 w (by decide) (by decide +kernel) rfl (by decide) rfl rfl rfl (tb_mem 350 (by decide +kernel) (by decide +kernel)) inX11 tyX11_ok nmX11 rfl rfl rfl (show shp 1 = (19, 0) by decide +kernel) (show (1 : Int) ≤ ((159 : Nat) : Int) by decide) (fun w => ?_)
  show AW Γ l mX11_init (d + 2) (b - 662) 146 [vR 1, vI 12] [] (mkw (qX11_21 q) 159 ((1, 9, 153) :: rX11_21 r)) K
  refine aw_aload_n (k' := 0) (by decide +kernel) rfl ?_
  refine aw_new (C := RX1) (T := TX1) (N := 1) (ci := 1) (idx := 62) (k := 1) (b' := (b - 663)) (t := 160) (n := 159) (q := qX11_21 q) (r := (1, 9, 153) :: rX11_21 r) tyX1 (by decide) (by decide) w (show shp 160 = (11, 0) by decide +kernel) rfl (tb_mem 276 (by decide +kernel) (by decide +kernel)) (tb_mem 277 (by decide +kernel) (by decide +kernel)) (tb_mem 10 (by decide +kernel) (by decide +kernel)) inX1 tyX1_ok (by decide +kernel) (by decide +kernel) (by decide) (by omega) (fun w => ?_)
  show AW Γ l mX11_init (d + 2) (b - 663) 150 [vR 1, vI 12] [vR 160, vR 1] (mkw (qX11_21 q) 160 ((1, 9, 153) :: rX11_21 r)) K
  refine aw_dup (by decide +kernel) trivial ?_
  refine aw_aload_n (k' := 0) (by decide +kernel) rfl ?_
  refine gfX11_58 rfl (by decide +kernel) ⟨(show shp 1 = (19, 0) by decide +kernel), (show (1 : Int) ≤ ((160 : Nat) : Int) by decide)⟩ ?_
  refine AW.topR (show lkR ((1, 9, 153) :: rX11_21 r) 1 9 = 153 from rfl) ?_
  refine aw_callI (idx := 64) (y := yX1_init) (M2 := mX1_init) (as := [vR 153]) (S := [vR 160, vR 1]) (t := 160) (d2 := (d + 1)) (b2 := 0) (b3 := (b - 663)) (by decide) cwX1_init (tb_mem 278 (by decide +kernel) (by decide +kernel)) imX1_init rfl rfl (by decide +kernel) rfl (Nat.le_refl _) (by omega) rfl rfl (by simp [oneSlot]) (Nat.le_of_ble_eq_true rfl) (ct_X1 (q := (qX11_21 q)) (r := ((1, 9, 153) :: rX11_21 r)) w (by omega) (fun w => ?_))
  have w : LW (qX11_22 q) 160 (rX11_22 r) := w
  show AW Γ l mX11_init (d + 2) (b - 663) 158 [vR 1, vI 12] [vR 160, vR 1] (mkw (qX11_22 q) 160 (rX11_22 r)) K
  refine aw_putR (C := RX11) (T := TX11) (N := 18) (ci := 9) (idx := 67) (k := 10) (j := 10) tyX11 w (by decide) (by decide +kernel) rfl (by decide) rfl rfl rfl (tb_mem 351 (by decide +kernel) (by decide +kernel)) inX11 tyX11_ok nmX11 rfl rfl rfl (show shp 1 = (19, 0) by decide +kernel) (show (1 : Int) ≤ ((160 : Nat) : Int) by decide) (fun w => ?_)
  show AW Γ l mX11_init (d + 2) (b - 663) 161 [vR 1, vI 12] [] (mkw (qX11_22 q) 160 ((1, 10, 160) :: rX11_22 r)) K
  refine aw_aload_n (k' := 0) (by decide +kernel) rfl ?_
  refine aw_new (C := RX5) (T := TX5) (N := 9) (ci := 4) (idx := 71) (k := 1) (b' := (b - 664)) (t := 161) (n := 160) (q := qX11_22 q) (r := (1, 10, 160) :: rX11_22 r) tyX5 (by decide) (by decide) w (show shp 161 = (14, 0) by decide +kernel) rfl (tb_mem 286 (by decide +kernel) (by decide +kernel)) (tb_mem 287 (by decide +kernel) (by decide +kernel)) (tb_mem 11 (by decide +kernel) (by decide +kernel)) inX5 tyX5_ok (by decide +kernel) (by decide +kernel) (by decide) (by omega) (fun w => ?_)
  show AW Γ l mX11_init (d + 2) (b - 664) 165 [vR 1, vI 12] [vR 161, vR 1] (mkw (qX11_22 q) 161 ((1, 10, 160) :: rX11_22 r)) K
  refine aw_dup (by decide +kernel) trivial ?_
  refine aw_aload_n (k' := 0) (by decide +kernel) rfl ?_
  refine gfX11_58 rfl (by decide +kernel) ⟨(show shp 1 = (19, 0) by decide +kernel), (show (1 : Int) ≤ ((161 : Nat) : Int) by decide)⟩ ?_
  refine AW.topR (show lkR ((1, 10, 160) :: rX11_22 r) 1 9 = 153 from rfl) ?_
  refine aw_callI (idx := 73) (y := yX5_init) (M2 := mX5_init) (as := [vR 153]) (S := [vR 161, vR 1]) (t := 161) (d2 := (d + 1)) (b2 := 5) (b3 := (b - 669)) (by decide) cwX5_init (tb_mem 288 (by decide +kernel) (by decide +kernel)) imX5_init rfl rfl (by decide +kernel) rfl (Nat.le_refl _) (by omega) rfl rfl (by simp [oneSlot]) (Nat.le_of_ble_eq_true rfl) (ct_X5 (q := (qX11_22 q)) (r := ((1, 10, 160) :: rX11_22 r)) w (by omega) (fun w => ?_))
  have w : LW (qX11_23 q) 166 (rX11_23 r) := w
  show AW Γ l mX11_init (d + 2) (b - 669) 173 [vR 1, vI 12] [vR 161, vR 1] (mkw (qX11_23 q) 166 (rX11_23 r)) K
  refine aw_putR (C := RX11) (T := TX11) (N := 18) (ci := 9) (idx := 74) (k := 11) (j := 11) tyX11 w (by decide) (by decide +kernel) rfl (by decide) rfl rfl rfl (tb_mem 352 (by decide +kernel) (by decide +kernel)) inX11 tyX11_ok nmX11 rfl rfl rfl (show shp 1 = (19, 0) by decide +kernel) (show (1 : Int) ≤ ((166 : Nat) : Int) by decide) (fun w => ?_)
  show AW Γ l mX11_init (d + 2) (b - 669) 176 [vR 1, vI 12] [] (mkw (qX11_23 q) 166 ((1, 11, 161) :: rX11_23 r)) K
  refine aw_aload_n (k' := 0) (by decide +kernel) rfl ?_
  refine aw_new (C := RX6) (T := TX6) (N := 3) (ci := 5) (idx := 78) (k := 1) (b' := (b - 670)) (t := 167) (n := 166) (q := qX11_23 q) (r := (1, 11, 161) :: rX11_23 r) tyX6 (by decide) (by decide) w (show shp 167 = (15, 0) by decide +kernel) rfl (tb_mem 323 (by decide +kernel) (by decide +kernel)) (tb_mem 324 (by decide +kernel) (by decide +kernel)) (tb_mem 12 (by decide +kernel) (by decide +kernel)) inX6 tyX6_ok (by decide +kernel) (by decide +kernel) (by decide) (by omega) (fun w => ?_)
  show AW Γ l mX11_init (d + 2) (b - 670) 180 [vR 1, vI 12] [vR 167, vR 1] (mkw (qX11_23 q) 167 ((1, 11, 161) :: rX11_23 r)) K
  refine aw_dup (by decide +kernel) trivial ?_
  refine aw_callI (idx := 80) (y := yX6_init) (M2 := mX6_init) (as := []) (S := [vR 167, vR 1]) (t := 167) (d2 := (d + 1)) (b2 := 2) (b3 := (b - 672)) (by decide) cwX6_init (tb_mem 325 (by decide +kernel) (by decide +kernel)) imX6_init rfl rfl (by decide +kernel) rfl (Nat.le_refl _) (by omega) rfl rfl (by simp [oneSlot]) (Nat.le_of_ble_eq_true rfl) (ct_X6 (q := (qX11_23 q)) (r := ((1, 11, 161) :: rX11_23 r)) w (by omega) (fun w => ?_))
  have w : LW (qX11_24 q) 169 (rX11_24 r) := w
  show AW Γ l mX11_init (d + 2) (b - 672) 184 [vR 1, vI 12] [vR 167, vR 1] (mkw (qX11_24 q) 169 (rX11_24 r)) K
  refine aw_putR (C := RX11) (T := TX11) (N := 18) (ci := 9) (idx := 81) (k := 12) (j := 12) tyX11 w (by decide) (by decide +kernel) rfl (by decide) rfl rfl rfl (tb_mem 353 (by decide +kernel) (by decide +kernel)) inX11 tyX11_ok nmX11 rfl rfl rfl (show shp 1 = (19, 0) by decide +kernel) (show (1 : Int) ≤ ((169 : Nat) : Int) by decide) (fun w => ?_)
  show AW Γ l mX11_init (d + 2) (b - 672) 187 [vR 1, vI 12] [] (mkw (qX11_24 q) 169 ((1, 12, 167) :: rX11_24 r)) K
  refine aw_aload_n (k' := 0) (by decide +kernel) rfl ?_
  refine aw_bipush (n := 6) (by decide +kernel) (by decide +kernel) ?_
  refine aw_newa (at9 := .int) (ty := .int) (kd := 0) (n9 := 6) (k := 1) (b' := (b - 673)) (t := 170) (n := 169) (q := qX11_24 q) (r := (1, 12, 167) :: rX11_24 r) 6 (by decide) (by decide) w (show shp 170 = (0, 6) by decide +kernel) rfl (by decide) rfl (tb_mem 53 (by decide +kernel) (by decide +kernel)) (by decide +kernel) (by decide +kernel) (Nat.le_of_ble_eq_true rfl) (by decide +kernel) ⟨Nat.le_of_ble_eq_true rfl, Nat.le_of_ble_eq_true rfl⟩ (by omega) (fun w => ?_)
  show AW Γ l mX11_init (d + 2) (b - 673) 192 [vR 1, vI 12] [vR 170, vR 1] (mkw (qX11_24 q) 170 ((1, 12, 167) :: rX11_24 r)) K
  refine aw_putR (C := RX11) (T := TX11) (N := 18) (ci := 9) (idx := 85) (k := 13) (j := 13) tyX11 w (by decide) (by decide +kernel) rfl (by decide) rfl rfl rfl (tb_mem 354 (by decide +kernel) (by decide +kernel)) inX11 tyX11_ok nmX11 rfl rfl rfl (show shp 1 = (19, 0) by decide +kernel) (show (1 : Int) ≤ ((170 : Nat) : Int) by decide) (fun w => ?_)
  show AW Γ l mX11_init (d + 2) (b - 673) 195 [vR 1, vI 12] [] (mkw (qX11_24 q) 170 ((1, 13, 170) :: (1, 12, 167) :: rX11_24 r)) K
  refine aw_aload_n (k' := 0) (by decide +kernel) rfl ?_
  refine aw_iconst (n := 0) (by decide +kernel) ?_
  refine pfX11_89 rfl (by decide +kernel) ⟨(show shp 1 = (19, 0) by decide +kernel), (show (1 : Int) ≤ ((170 : Nat) : Int) by decide)⟩ ?_
  have w := w.pq (t := 1) (j := 14) (v := 0) (show (1 : Int) ≤ ((170 : Nat) : Int) by decide)
  show AW Γ l mX11_init (d + 2) (b - 673) 200 [vR 1, vI 12] [] (mkw ((1, 14, 0) :: qX11_24 q) 170 ((1, 13, 170) :: (1, 12, 167) :: rX11_24 r)) K
  refine aw_aload_n (k' := 0) (by decide +kernel) rfl ?_
  refine aw_iconst (n := 0) (by decide +kernel) ?_
  refine pfX11_93 rfl (by decide +kernel) ⟨(show shp 1 = (19, 0) by decide +kernel), (show (1 : Int) ≤ ((170 : Nat) : Int) by decide)⟩ ?_
  have w := w.pq (t := 1) (j := 15) (v := 0) (show (1 : Int) ≤ ((170 : Nat) : Int) by decide)
  show AW Γ l mX11_init (d + 2) (b - 673) 205 [vR 1, vI 12] [] (mkw ((1, 15, 0) :: (1, 14, 0) :: qX11_24 q) 170 ((1, 13, 170) :: (1, 12, 167) :: rX11_24 r)) K
  refine aw_aload_n (k' := 0) (by decide +kernel) rfl ?_
  refine aw_iconst (n := 0) (by decide +kernel) ?_
  refine pfX11_96 rfl (by decide +kernel) ⟨(show shp 1 = (19, 0) by decide +kernel), (show (1 : Int) ≤ ((170 : Nat) : Int) by decide)⟩ rfl rfl ?_
  have w := w.pq (t := 1) (j := 16) (v := 0) (show (1 : Int) ≤ ((170 : Nat) : Int) by decide)
  show AW Γ l mX11_init (d + 2) (b - 673) 210 [vR 1, vI 12] [] (mkw ((1, 16, 0) :: (1, 15, 0) :: (1, 14, 0) :: qX11_24 q) 170 ((1, 13, 170) :: (1, 12, 167) :: rX11_24 r)) K
  refine aw_aload_n (k' := 0) (by decide +kernel) rfl ?_
  refine aw_iconst (n := -1) (by decide +kernel) ?_
  refine pfX11_100 rfl (by decide +kernel) ⟨(show shp 1 = (19, 0) by decide +kernel), (show (1 : Int) ≤ ((170 : Nat) : Int) by decide)⟩ ?_
  have w := w.pq (t := 1) (j := 17) (v := -1) (show (1 : Int) ≤ ((170 : Nat) : Int) by decide)
  show AW Γ l mX11_init (d + 2) (b - 673) 215 [vR 1, vI 12] [] (mkw ((1, 17, -1) :: (1, 16, 0) :: (1, 15, 0) :: (1, 14, 0) :: qX11_24 q) 170 ((1, 13, 170) :: (1, 12, 167) :: rX11_24 r)) K
  exact aw_vret (by decide +kernel) rfl (k w)
def qX12 (q : List (Int × Int × Int)) : List (Int × Int × Int) := (172, 3, 20) :: (172, 7, 1) :: (171, 14, -1) :: q
def rX12 (r : List (Int × Int × Int)) : List (Int × Int × Int) := (171, 33, 189) :: (171, 32, 188) :: (171, 31, 187) :: (171, 30, 186) :: (171, 29, 185) :: (171, 28, 184) :: (171, 26, 183) :: (171, 25, 182) :: (171, 23, 181) :: (171, 22, 180) :: (171, 18, 179) :: (171, 15, 178) :: (171, 8, 177) :: (171, 5, 176) :: (171, 4, 175) :: (171, 3, 174) :: (171, 2, 173) :: (171, 1, 172) :: r
set_option maxHeartbeats 4000000 in
set_option maxRecDepth 100000 in
theorem ct_X12 {Γ : Cfg} {l : Launch} {d b : Nat} {q r : List (Int × Int × Int)} {K : Ou → HP → Prop} (w : LW q 171 r) (hb : 772 ≤ b) (k : LW (qX12 q) 189 (rX12 r) → K (.inl vU) (mkw (qX12 q) 189 (rX12 r))) : Ct Γ l d b yX12_init mX12_init [vR 171] (mkw q 171 r) K := by
  refine Ct.enter (L := [vR 171]) rfl rfl rfl (by decide +kernel) (by simp [oneSlot]) (Nat.le_of_ble_eq_true rfl) rfl ?_
  refine aw_aload_n (k' := 0) (by decide +kernel) rfl ?_
  refine aw_objI (idx := 7) (by decide) (tb_mem 1331 (by decide +kernel) (by decide +kernel)) (by simp [oneSlot]) (Nat.le_of_ble_eq_true rfl) (by decide +kernel) ?_
  refine aw_aload_n (k' := 0) (by decide +kernel) rfl ?_
  refine aw_sipush (n := 2184) (by decide +kernel) (by decide +kernel) ?_
  refine aw_newa (at9 := .int) (ty := .int) (kd := 0) (n9 := 2184) (k := 137) (b' := (b - 137)) (t := 172) (n := 171) (q := q) (r := r) 2184 (by decide) (by decide) w (show shp 172 = (0, 2184) by decide +kernel) rfl (by decide) rfl (tb_mem 53 (by decide +kernel) (by decide +kernel)) (by decide +kernel) (by decide +kernel) (Nat.le_of_ble_eq_true rfl) (by decide +kernel) ⟨Nat.le_of_ble_eq_true rfl, Nat.le_of_ble_eq_true rfl⟩ (by omega) (fun w => ?_)
  show AW Γ l mX12_init d (b - 137) 10 [vR 171] [vR 172, vR 171] (mkw q 172 r) K
  refine aw_putR (C := RX12) (T := TX12) (N := 34) (ci := 10) (idx := 13) (k := 1) (j := 1) tyX12 w (by decide) (by decide +kernel) rfl (by decide) rfl rfl rfl (tb_mem 1333 (by decide +kernel) (by decide +kernel)) inX12 tyX12_ok nmX12 rfl rfl rfl (show shp 171 = (20, 0) by decide +kernel) (show (171 : Int) ≤ ((172 : Nat) : Int) by decide) (fun w => ?_)
  show AW Γ l mX12_init d (b - 137) 13 [vR 171] [] (mkw q 172 ((171, 1, 172) :: r)) K
  refine aw_aload_n (k' := 0) (by decide +kernel) rfl ?_
  refine aw_sipush (n := 1335) (by decide +kernel) (by decide +kernel) ?_
  refine aw_newa (at9 := .int) (ty := .int) (kd := 0) (n9 := 1335) (k := 84) (b' := (b - 221)) (t := 173) (n := 172) (q := q) (r := (171, 1, 172) :: r) 1335 (by decide) (by decide) w (show shp 173 = (0, 1335) by decide +kernel) rfl (by decide) rfl (tb_mem 53 (by decide +kernel) (by decide +kernel)) (by decide +kernel) (by decide +kernel) (Nat.le_of_ble_eq_true rfl) (by decide +kernel) ⟨Nat.le_of_ble_eq_true rfl, Nat.le_of_ble_eq_true rfl⟩ (by omega) (fun w => ?_)
  show AW Γ l mX12_init d (b - 221) 19 [vR 171] [vR 173, vR 171] (mkw q 173 ((171, 1, 172) :: r)) K
  refine aw_putR (C := RX12) (T := TX12) (N := 34) (ci := 10) (idx := 17) (k := 2) (j := 2) tyX12 w (by decide) (by decide +kernel) rfl (by decide) rfl rfl rfl (tb_mem 1334 (by decide +kernel) (by decide +kernel)) inX12 tyX12_ok nmX12 rfl rfl rfl (show shp 171 = (20, 0) by decide +kernel) (show (171 : Int) ≤ ((173 : Nat) : Int) by decide) (fun w => ?_)
  show AW Γ l mX12_init d (b - 221) 22 [vR 171] [] (mkw q 173 ((171, 2, 173) :: (171, 1, 172) :: r)) K
  refine aw_aload_n (k' := 0) (by decide +kernel) rfl ?_
  refine aw_sipush (n := 1335) (by decide +kernel) (by decide +kernel) ?_
  refine aw_newa (at9 := .int) (ty := .int) (kd := 0) (n9 := 1335) (k := 84) (b' := (b - 305)) (t := 174) (n := 173) (q := q) (r := (171, 2, 173) :: (171, 1, 172) :: r) 1335 (by decide) (by decide) w (show shp 174 = (0, 1335) by decide +kernel) rfl (by decide) rfl (tb_mem 53 (by decide +kernel) (by decide +kernel)) (by decide +kernel) (by decide +kernel) (Nat.le_of_ble_eq_true rfl) (by decide +kernel) ⟨Nat.le_of_ble_eq_true rfl, Nat.le_of_ble_eq_true rfl⟩ (by omega) (fun w => ?_)
  show AW Γ l mX12_init d (b - 305) 28 [vR 171] [vR 174, vR 171] (mkw q 174 ((171, 2, 173) :: (171, 1, 172) :: r)) K
  refine aw_putR (C := RX12) (T := TX12) (N := 34) (ci := 10) (idx := 20) (k := 3) (j := 3) tyX12 w (by decide) (by decide +kernel) rfl (by decide) rfl rfl rfl (tb_mem 1335 (by decide +kernel) (by decide +kernel)) inX12 tyX12_ok nmX12 rfl rfl rfl (show shp 171 = (20, 0) by decide +kernel) (show (171 : Int) ≤ ((174 : Nat) : Int) by decide) (fun w => ?_)
  show AW Γ l mX12_init d (b - 305) 31 [vR 171] [] (mkw q 174 ((171, 3, 174) :: (171, 2, 173) :: (171, 1, 172) :: r)) K
  refine aw_aload_n (k' := 0) (by decide +kernel) rfl ?_
  refine aw_sipush (n := 486) (by decide +kernel) (by decide +kernel) ?_
  refine aw_newa (at9 := .int) (ty := .int) (kd := 0) (n9 := 486) (k := 31) (b' := (b - 336)) (t := 175) (n := 174) (q := q) (r := (171, 3, 174) :: (171, 2, 173) :: (171, 1, 172) :: r) 486 (by decide) (by decide) w (show shp 175 = (0, 486) by decide +kernel) rfl (by decide) rfl (tb_mem 53 (by decide +kernel) (by decide +kernel)) (by decide +kernel) (by decide +kernel) (Nat.le_of_ble_eq_true rfl) (by decide +kernel) ⟨Nat.le_of_ble_eq_true rfl, Nat.le_of_ble_eq_true rfl⟩ (by omega) (fun w => ?_)
  show AW Γ l mX12_init d (b - 336) 37 [vR 171] [vR 175, vR 171] (mkw q 175 ((171, 3, 174) :: (171, 2, 173) :: (171, 1, 172) :: r)) K
  refine aw_putR (C := RX12) (T := TX12) (N := 34) (ci := 10) (idx := 23) (k := 4) (j := 4) tyX12 w (by decide) (by decide +kernel) rfl (by decide) rfl rfl rfl (tb_mem 1336 (by decide +kernel) (by decide +kernel)) inX12 tyX12_ok nmX12 rfl rfl rfl (show shp 171 = (20, 0) by decide +kernel) (show (171 : Int) ≤ ((175 : Nat) : Int) by decide) (fun w => ?_)
  show AW Γ l mX12_init d (b - 336) 40 [vR 171] [] (mkw q 175 ((171, 4, 175) :: (171, 3, 174) :: (171, 2, 173) :: (171, 1, 172) :: r)) K
  refine aw_aload_n (k' := 0) (by decide +kernel) rfl ?_
  refine aw_sipush (n := 5832) (by decide +kernel) (by decide +kernel) ?_
  refine aw_newa (at9 := .int) (ty := .int) (kd := 0) (n9 := 5832) (k := 365) (b' := (b - 701)) (t := 176) (n := 175) (q := q) (r := (171, 4, 175) :: (171, 3, 174) :: (171, 2, 173) :: (171, 1, 172) :: r) 5832 (by decide) (by decide) w (show shp 176 = (0, 5832) by decide +kernel) rfl (by decide) rfl (tb_mem 53 (by decide +kernel) (by decide +kernel)) (by decide +kernel) (by decide +kernel) (Nat.le_of_ble_eq_true rfl) (by decide +kernel) ⟨Nat.le_of_ble_eq_true rfl, Nat.le_of_ble_eq_true rfl⟩ (by omega) (fun w => ?_)
  show AW Γ l mX12_init d (b - 701) 46 [vR 171] [vR 176, vR 171] (mkw q 176 ((171, 4, 175) :: (171, 3, 174) :: (171, 2, 173) :: (171, 1, 172) :: r)) K
  refine aw_putR (C := RX12) (T := TX12) (N := 34) (ci := 10) (idx := 26) (k := 5) (j := 5) tyX12 w (by decide) (by decide +kernel) rfl (by decide) rfl rfl rfl (tb_mem 1337 (by decide +kernel) (by decide +kernel)) inX12 tyX12_ok nmX12 rfl rfl rfl (show shp 171 = (20, 0) by decide +kernel) (show (171 : Int) ≤ ((176 : Nat) : Int) by decide) (fun w => ?_)
  show AW Γ l mX12_init d (b - 701) 49 [vR 171] [] (mkw q 176 ((171, 5, 176) :: (171, 4, 175) :: (171, 3, 174) :: (171, 2, 173) :: (171, 1, 172) :: r)) K
  refine aw_aload_n (k' := 0) (by decide +kernel) rfl ?_
  refine aw_sipush (n := 400) (by decide +kernel) (by decide +kernel) ?_
  refine aw_newa (at9 := .byte) (ty := .byte) (kd := 1) (n9 := 400) (k := 25) (b' := (b - 726)) (t := 177) (n := 176) (q := q) (r := (171, 5, 176) :: (171, 4, 175) :: (171, 3, 174) :: (171, 2, 173) :: (171, 1, 172) :: r) 400 (by decide) (by decide) w (show shp 177 = (1, 400) by decide +kernel) rfl (by decide) rfl (tb_mem 787 (by decide +kernel) (by decide +kernel)) (by decide +kernel) (by decide +kernel) (Nat.le_of_ble_eq_true rfl) (by decide +kernel) ⟨Nat.le_of_ble_eq_true rfl, Nat.le_of_ble_eq_true rfl⟩ (by omega) (fun w => ?_)
  show AW Γ l mX12_init d (b - 726) 55 [vR 171] [vR 177, vR 171] (mkw q 177 ((171, 5, 176) :: (171, 4, 175) :: (171, 3, 174) :: (171, 2, 173) :: (171, 1, 172) :: r)) K
  refine aw_putR (C := RX12) (T := TX12) (N := 34) (ci := 10) (idx := 29) (k := 8) (j := 8) tyX12 w (by decide) (by decide +kernel) rfl (by decide) rfl rfl rfl (tb_mem 1340 (by decide +kernel) (by decide +kernel)) inX12 tyX12_ok nmX12 rfl rfl rfl (show shp 171 = (20, 0) by decide +kernel) (show (171 : Int) ≤ ((177 : Nat) : Int) by decide) (fun w => ?_)
  show AW Γ l mX12_init d (b - 726) 58 [vR 171] [] (mkw q 177 ((171, 8, 177) :: (171, 5, 176) :: (171, 4, 175) :: (171, 3, 174) :: (171, 2, 173) :: (171, 1, 172) :: r)) K
  refine aw_aload_n (k' := 0) (by decide +kernel) rfl ?_
  refine aw_iconst (n := -1) (by decide +kernel) ?_
  refine pfX12_33 rfl (by decide +kernel) ⟨(show shp 171 = (20, 0) by decide +kernel), (show (171 : Int) ≤ ((177 : Nat) : Int) by decide)⟩ ?_
  have w := w.pq (t := 171) (j := 14) (v := -1) (show (171 : Int) ≤ ((177 : Nat) : Int) by decide)
  show AW Γ l mX12_init d (b - 726) 63 [vR 171] [] (mkw ((171, 14, -1) :: q) 177 ((171, 8, 177) :: (171, 5, 176) :: (171, 4, 175) :: (171, 3, 174) :: (171, 2, 173) :: (171, 1, 172) :: r)) K
  refine aw_aload_n (k' := 0) (by decide +kernel) rfl ?_
  refine aw_iconst (n := 5) (by decide +kernel) ?_
  refine aw_newa (at9 := .int) (ty := .int) (kd := 0) (n9 := 5) (k := 1) (b' := (b - 727)) (t := 178) (n := 177) (q := (171, 14, -1) :: q) (r := (171, 8, 177) :: (171, 5, 176) :: (171, 4, 175) :: (171, 3, 174) :: (171, 2, 173) :: (171, 1, 172) :: r) 5 (by decide) (by decide) w (show shp 178 = (0, 5) by decide +kernel) rfl (by decide) rfl (tb_mem 53 (by decide +kernel) (by decide +kernel)) (by decide +kernel) (by decide +kernel) (Nat.le_of_ble_eq_true rfl) (by decide +kernel) ⟨Nat.le_of_ble_eq_true rfl, Nat.le_of_ble_eq_true rfl⟩ (by omega) (fun w => ?_)
  show AW Γ l mX12_init d (b - 727) 67 [vR 171] [vR 178, vR 171] (mkw ((171, 14, -1) :: q) 178 ((171, 8, 177) :: (171, 5, 176) :: (171, 4, 175) :: (171, 3, 174) :: (171, 2, 173) :: (171, 1, 172) :: r)) K
  refine aw_putR (C := RX12) (T := TX12) (N := 34) (ci := 10) (idx := 36) (k := 15) (j := 15) tyX12 w (by decide) (by decide +kernel) rfl (by decide) rfl rfl rfl (tb_mem 1347 (by decide +kernel) (by decide +kernel)) inX12 tyX12_ok nmX12 rfl rfl rfl (show shp 171 = (20, 0) by decide +kernel) (show (171 : Int) ≤ ((178 : Nat) : Int) by decide) (fun w => ?_)
  show AW Γ l mX12_init d (b - 727) 70 [vR 171] [] (mkw ((171, 14, -1) :: q) 178 ((171, 15, 178) :: (171, 8, 177) :: (171, 5, 176) :: (171, 4, 175) :: (171, 3, 174) :: (171, 2, 173) :: (171, 1, 172) :: r)) K
  refine aw_aload_n (k' := 0) (by decide +kernel) rfl ?_
  refine aw_bipush (n := 30) (by decide +kernel) (by decide +kernel) ?_
  refine aw_newa (at9 := .int) (ty := .int) (kd := 0) (n9 := 30) (k := 2) (b' := (b - 729)) (t := 179) (n := 178) (q := (171, 14, -1) :: q) (r := (171, 15, 178) :: (171, 8, 177) :: (171, 5, 176) :: (171, 4, 175) :: (171, 3, 174) :: (171, 2, 173) :: (171, 1, 172) :: r) 30 (by decide) (by decide) w (show shp 179 = (0, 30) by decide +kernel) rfl (by decide) rfl (tb_mem 53 (by decide +kernel) (by decide +kernel)) (by decide +kernel) (by decide +kernel) (Nat.le_of_ble_eq_true rfl) (by decide +kernel) ⟨Nat.le_of_ble_eq_true rfl, Nat.le_of_ble_eq_true rfl⟩ (by omega) (fun w => ?_)
  show AW Γ l mX12_init d (b - 729) 75 [vR 171] [vR 179, vR 171] (mkw ((171, 14, -1) :: q) 179 ((171, 15, 178) :: (171, 8, 177) :: (171, 5, 176) :: (171, 4, 175) :: (171, 3, 174) :: (171, 2, 173) :: (171, 1, 172) :: r)) K
  refine aw_putR (C := RX12) (T := TX12) (N := 34) (ci := 10) (idx := 39) (k := 18) (j := 18) tyX12 w (by decide) (by decide +kernel) rfl (by decide) rfl rfl rfl (tb_mem 1350 (by decide +kernel) (by decide +kernel)) inX12 tyX12_ok nmX12 rfl rfl rfl (show shp 171 = (20, 0) by decide +kernel) (show (171 : Int) ≤ ((179 : Nat) : Int) by decide) (fun w => ?_)
  show AW Γ l mX12_init d (b - 729) 78 [vR 171] [] (mkw ((171, 14, -1) :: q) 179 ((171, 18, 179) :: (171, 15, 178) :: (171, 8, 177) :: (171, 5, 176) :: (171, 4, 175) :: (171, 3, 174) :: (171, 2, 173) :: (171, 1, 172) :: r)) K
  refine aw_aload_n (k' := 0) (by decide +kernel) rfl ?_
  refine aw_bipush (n := 12) (by decide +kernel) (by decide +kernel) ?_
  refine aw_newa (at9 := .int) (ty := .int) (kd := 0) (n9 := 12) (k := 1) (b' := (b - 730)) (t := 180) (n := 179) (q := (171, 14, -1) :: q) (r := (171, 18, 179) :: (171, 15, 178) :: (171, 8, 177) :: (171, 5, 176) :: (171, 4, 175) :: (171, 3, 174) :: (171, 2, 173) :: (171, 1, 172) :: r) 12 (by decide) (by decide) w (show shp 180 = (0, 12) by decide +kernel) rfl (by decide) rfl (tb_mem 53 (by decide +kernel) (by decide +kernel)) (by decide +kernel) (by decide +kernel) (Nat.le_of_ble_eq_true rfl) (by decide +kernel) ⟨Nat.le_of_ble_eq_true rfl, Nat.le_of_ble_eq_true rfl⟩ (by omega) (fun w => ?_)
  show AW Γ l mX12_init d (b - 730) 83 [vR 171] [vR 180, vR 171] (mkw ((171, 14, -1) :: q) 180 ((171, 18, 179) :: (171, 15, 178) :: (171, 8, 177) :: (171, 5, 176) :: (171, 4, 175) :: (171, 3, 174) :: (171, 2, 173) :: (171, 1, 172) :: r)) K
  refine aw_putR (C := RX12) (T := TX12) (N := 34) (ci := 10) (idx := 42) (k := 22) (j := 22) tyX12 w (by decide) (by decide +kernel) rfl (by decide) rfl rfl rfl (tb_mem 1354 (by decide +kernel) (by decide +kernel)) inX12 tyX12_ok nmX12 rfl rfl rfl (show shp 171 = (20, 0) by decide +kernel) (show (171 : Int) ≤ ((180 : Nat) : Int) by decide) (fun w => ?_)
  show AW Γ l mX12_init d (b - 730) 86 [vR 171] [] (mkw ((171, 14, -1) :: q) 180 ((171, 22, 180) :: (171, 18, 179) :: (171, 15, 178) :: (171, 8, 177) :: (171, 5, 176) :: (171, 4, 175) :: (171, 3, 174) :: (171, 2, 173) :: (171, 1, 172) :: r)) K
  refine aw_aload_n (k' := 0) (by decide +kernel) rfl ?_
  refine aw_sipush (n := 400) (by decide +kernel) (by decide +kernel) ?_
  refine aw_newa (at9 := .int) (ty := .int) (kd := 0) (n9 := 400) (k := 25) (b' := (b - 755)) (t := 181) (n := 180) (q := (171, 14, -1) :: q) (r := (171, 22, 180) :: (171, 18, 179) :: (171, 15, 178) :: (171, 8, 177) :: (171, 5, 176) :: (171, 4, 175) :: (171, 3, 174) :: (171, 2, 173) :: (171, 1, 172) :: r) 400 (by decide) (by decide) w (show shp 181 = (0, 400) by decide +kernel) rfl (by decide) rfl (tb_mem 53 (by decide +kernel) (by decide +kernel)) (by decide +kernel) (by decide +kernel) (Nat.le_of_ble_eq_true rfl) (by decide +kernel) ⟨Nat.le_of_ble_eq_true rfl, Nat.le_of_ble_eq_true rfl⟩ (by omega) (fun w => ?_)
  show AW Γ l mX12_init d (b - 755) 92 [vR 171] [vR 181, vR 171] (mkw ((171, 14, -1) :: q) 181 ((171, 22, 180) :: (171, 18, 179) :: (171, 15, 178) :: (171, 8, 177) :: (171, 5, 176) :: (171, 4, 175) :: (171, 3, 174) :: (171, 2, 173) :: (171, 1, 172) :: r)) K
  refine aw_putR (C := RX12) (T := TX12) (N := 34) (ci := 10) (idx := 45) (k := 23) (j := 23) tyX12 w (by decide) (by decide +kernel) rfl (by decide) rfl rfl rfl (tb_mem 1355 (by decide +kernel) (by decide +kernel)) inX12 tyX12_ok nmX12 rfl rfl rfl (show shp 171 = (20, 0) by decide +kernel) (show (171 : Int) ≤ ((181 : Nat) : Int) by decide) (fun w => ?_)
  show AW Γ l mX12_init d (b - 755) 95 [vR 171] [] (mkw ((171, 14, -1) :: q) 181 ((171, 23, 181) :: (171, 22, 180) :: (171, 18, 179) :: (171, 15, 178) :: (171, 8, 177) :: (171, 5, 176) :: (171, 4, 175) :: (171, 3, 174) :: (171, 2, 173) :: (171, 1, 172) :: r)) K
  refine aw_aload_n (k' := 0) (by decide +kernel) rfl ?_
  refine aw_bipush (n := 12) (by decide +kernel) (by decide +kernel) ?_
  refine aw_newa (at9 := .int) (ty := .int) (kd := 0) (n9 := 12) (k := 1) (b' := (b - 756)) (t := 182) (n := 181) (q := (171, 14, -1) :: q) (r := (171, 23, 181) :: (171, 22, 180) :: (171, 18, 179) :: (171, 15, 178) :: (171, 8, 177) :: (171, 5, 176) :: (171, 4, 175) :: (171, 3, 174) :: (171, 2, 173) :: (171, 1, 172) :: r) 12 (by decide) (by decide) w (show shp 182 = (0, 12) by decide +kernel) rfl (by decide) rfl (tb_mem 53 (by decide +kernel) (by decide +kernel)) (by decide +kernel) (by decide +kernel) (Nat.le_of_ble_eq_true rfl) (by decide +kernel) ⟨Nat.le_of_ble_eq_true rfl, Nat.le_of_ble_eq_true rfl⟩ (by omega) (fun w => ?_)
  show AW Γ l mX12_init d (b - 756) 100 [vR 171] [vR 182, vR 171] (mkw ((171, 14, -1) :: q) 182 ((171, 23, 181) :: (171, 22, 180) :: (171, 18, 179) :: (171, 15, 178) :: (171, 8, 177) :: (171, 5, 176) :: (171, 4, 175) :: (171, 3, 174) :: (171, 2, 173) :: (171, 1, 172) :: r)) K
  refine aw_putR (C := RX12) (T := TX12) (N := 34) (ci := 10) (idx := 48) (k := 25) (j := 25) tyX12 w (by decide) (by decide +kernel) rfl (by decide) rfl rfl rfl (tb_mem 1357 (by decide +kernel) (by decide +kernel)) inX12 tyX12_ok nmX12 rfl rfl rfl (show shp 171 = (20, 0) by decide +kernel) (show (171 : Int) ≤ ((182 : Nat) : Int) by decide) (fun w => ?_)
  show AW Γ l mX12_init d (b - 756) 103 [vR 171] [] (mkw ((171, 14, -1) :: q) 182 ((171, 25, 182) :: (171, 23, 181) :: (171, 22, 180) :: (171, 18, 179) :: (171, 15, 178) :: (171, 8, 177) :: (171, 5, 176) :: (171, 4, 175) :: (171, 3, 174) :: (171, 2, 173) :: (171, 1, 172) :: r)) K
  refine aw_aload_n (k' := 0) (by decide +kernel) rfl ?_
  refine aw_bipush (n := 12) (by decide +kernel) (by decide +kernel) ?_
  refine aw_newa (at9 := .int) (ty := .int) (kd := 0) (n9 := 12) (k := 1) (b' := (b - 757)) (t := 183) (n := 182) (q := (171, 14, -1) :: q) (r := (171, 25, 182) :: (171, 23, 181) :: (171, 22, 180) :: (171, 18, 179) :: (171, 15, 178) :: (171, 8, 177) :: (171, 5, 176) :: (171, 4, 175) :: (171, 3, 174) :: (171, 2, 173) :: (171, 1, 172) :: r) 12 (by decide) (by decide) w (show shp 183 = (0, 12) by decide +kernel) rfl (by decide) rfl (tb_mem 53 (by decide +kernel) (by decide +kernel)) (by decide +kernel) (by decide +kernel) (Nat.le_of_ble_eq_true rfl) (by decide +kernel) ⟨Nat.le_of_ble_eq_true rfl, Nat.le_of_ble_eq_true rfl⟩ (by omega) (fun w => ?_)
  show AW Γ l mX12_init d (b - 757) 108 [vR 171] [vR 183, vR 171] (mkw ((171, 14, -1) :: q) 183 ((171, 25, 182) :: (171, 23, 181) :: (171, 22, 180) :: (171, 18, 179) :: (171, 15, 178) :: (171, 8, 177) :: (171, 5, 176) :: (171, 4, 175) :: (171, 3, 174) :: (171, 2, 173) :: (171, 1, 172) :: r)) K
  refine aw_putR (C := RX12) (T := TX12) (N := 34) (ci := 10) (idx := 51) (k := 26) (j := 26) tyX12 w (by decide) (by decide +kernel) rfl (by decide) rfl rfl rfl (tb_mem 1358 (by decide +kernel) (by decide +kernel)) inX12 tyX12_ok nmX12 rfl rfl rfl (show shp 171 = (20, 0) by decide +kernel) (show (171 : Int) ≤ ((183 : Nat) : Int) by decide) (fun w => ?_)
  show AW Γ l mX12_init d (b - 757) 111 [vR 171] [] (mkw ((171, 14, -1) :: q) 183 ((171, 26, 183) :: (171, 25, 182) :: (171, 23, 181) :: (171, 22, 180) :: (171, 18, 179) :: (171, 15, 178) :: (171, 8, 177) :: (171, 5, 176) :: (171, 4, 175) :: (171, 3, 174) :: (171, 2, 173) :: (171, 1, 172) :: r)) K
  refine aw_aload_n (k' := 0) (by decide +kernel) rfl ?_
  refine aw_bipush (n := 6) (by decide +kernel) (by decide +kernel) ?_
  refine aw_newa (at9 := .int) (ty := .int) (kd := 0) (n9 := 6) (k := 1) (b' := (b - 758)) (t := 184) (n := 183) (q := (171, 14, -1) :: q) (r := (171, 26, 183) :: (171, 25, 182) :: (171, 23, 181) :: (171, 22, 180) :: (171, 18, 179) :: (171, 15, 178) :: (171, 8, 177) :: (171, 5, 176) :: (171, 4, 175) :: (171, 3, 174) :: (171, 2, 173) :: (171, 1, 172) :: r) 6 (by decide) (by decide) w (show shp 184 = (0, 6) by decide +kernel) rfl (by decide) rfl (tb_mem 53 (by decide +kernel) (by decide +kernel)) (by decide +kernel) (by decide +kernel) (Nat.le_of_ble_eq_true rfl) (by decide +kernel) ⟨Nat.le_of_ble_eq_true rfl, Nat.le_of_ble_eq_true rfl⟩ (by omega) (fun w => ?_)
  show AW Γ l mX12_init d (b - 758) 116 [vR 171] [vR 184, vR 171] (mkw ((171, 14, -1) :: q) 184 ((171, 26, 183) :: (171, 25, 182) :: (171, 23, 181) :: (171, 22, 180) :: (171, 18, 179) :: (171, 15, 178) :: (171, 8, 177) :: (171, 5, 176) :: (171, 4, 175) :: (171, 3, 174) :: (171, 2, 173) :: (171, 1, 172) :: r)) K
  refine aw_putR (C := RX12) (T := TX12) (N := 34) (ci := 10) (idx := 54) (k := 28) (j := 28) tyX12 w (by decide) (by decide +kernel) rfl (by decide) rfl rfl rfl (tb_mem 1360 (by decide +kernel) (by decide +kernel)) inX12 tyX12_ok nmX12 rfl rfl rfl (show shp 171 = (20, 0) by decide +kernel) (show (171 : Int) ≤ ((184 : Nat) : Int) by decide) (fun w => ?_)
  show AW Γ l mX12_init d (b - 758) 119 [vR 171] [] (mkw ((171, 14, -1) :: q) 184 ((171, 28, 184) :: (171, 26, 183) :: (171, 25, 182) :: (171, 23, 181) :: (171, 22, 180) :: (171, 18, 179) :: (171, 15, 178) :: (171, 8, 177) :: (171, 5, 176) :: (171, 4, 175) :: (171, 3, 174) :: (171, 2, 173) :: (171, 1, 172) :: r)) K
  refine aw_aload_n (k' := 0) (by decide +kernel) rfl ?_
  refine aw_bipush (n := 6) (by decide +kernel) (by decide +kernel) ?_
  refine aw_newa (at9 := .int) (ty := .int) (kd := 0) (n9 := 6) (k := 1) (b' := (b - 759)) (t := 185) (n := 184) (q := (171, 14, -1) :: q) (r := (171, 28, 184) :: (171, 26, 183) :: (171, 25, 182) :: (171, 23, 181) :: (171, 22, 180) :: (171, 18, 179) :: (171, 15, 178) :: (171, 8, 177) :: (171, 5, 176) :: (171, 4, 175) :: (171, 3, 174) :: (171, 2, 173) :: (171, 1, 172) :: r) 6 (by decide) (by decide) w (show shp 185 = (0, 6) by decide +kernel) rfl (by decide) rfl (tb_mem 53 (by decide +kernel) (by decide +kernel)) (by decide +kernel) (by decide +kernel) (Nat.le_of_ble_eq_true rfl) (by decide +kernel) ⟨Nat.le_of_ble_eq_true rfl, Nat.le_of_ble_eq_true rfl⟩ (by omega) (fun w => ?_)
  show AW Γ l mX12_init d (b - 759) 124 [vR 171] [vR 185, vR 171] (mkw ((171, 14, -1) :: q) 185 ((171, 28, 184) :: (171, 26, 183) :: (171, 25, 182) :: (171, 23, 181) :: (171, 22, 180) :: (171, 18, 179) :: (171, 15, 178) :: (171, 8, 177) :: (171, 5, 176) :: (171, 4, 175) :: (171, 3, 174) :: (171, 2, 173) :: (171, 1, 172) :: r)) K
  refine aw_putR (C := RX12) (T := TX12) (N := 34) (ci := 10) (idx := 57) (k := 29) (j := 29) tyX12 w (by decide) (by decide +kernel) rfl (by decide) rfl rfl rfl (tb_mem 1361 (by decide +kernel) (by decide +kernel)) inX12 tyX12_ok nmX12 rfl rfl rfl (show shp 171 = (20, 0) by decide +kernel) (show (171 : Int) ≤ ((185 : Nat) : Int) by decide) (fun w => ?_)
  show AW Γ l mX12_init d (b - 759) 127 [vR 171] [] (mkw ((171, 14, -1) :: q) 185 ((171, 29, 185) :: (171, 28, 184) :: (171, 26, 183) :: (171, 25, 182) :: (171, 23, 181) :: (171, 22, 180) :: (171, 18, 179) :: (171, 15, 178) :: (171, 8, 177) :: (171, 5, 176) :: (171, 4, 175) :: (171, 3, 174) :: (171, 2, 173) :: (171, 1, 172) :: r)) K
  refine aw_aload_n (k' := 0) (by decide +kernel) rfl ?_
  refine aw_bipush (n := 6) (by decide +kernel) (by decide +kernel) ?_
  refine aw_newa (at9 := .int) (ty := .int) (kd := 0) (n9 := 6) (k := 1) (b' := (b - 760)) (t := 186) (n := 185) (q := (171, 14, -1) :: q) (r := (171, 29, 185) :: (171, 28, 184) :: (171, 26, 183) :: (171, 25, 182) :: (171, 23, 181) :: (171, 22, 180) :: (171, 18, 179) :: (171, 15, 178) :: (171, 8, 177) :: (171, 5, 176) :: (171, 4, 175) :: (171, 3, 174) :: (171, 2, 173) :: (171, 1, 172) :: r) 6 (by decide) (by decide) w (show shp 186 = (0, 6) by decide +kernel) rfl (by decide) rfl (tb_mem 53 (by decide +kernel) (by decide +kernel)) (by decide +kernel) (by decide +kernel) (Nat.le_of_ble_eq_true rfl) (by decide +kernel) ⟨Nat.le_of_ble_eq_true rfl, Nat.le_of_ble_eq_true rfl⟩ (by omega) (fun w => ?_)
  show AW Γ l mX12_init d (b - 760) 132 [vR 171] [vR 186, vR 171] (mkw ((171, 14, -1) :: q) 186 ((171, 29, 185) :: (171, 28, 184) :: (171, 26, 183) :: (171, 25, 182) :: (171, 23, 181) :: (171, 22, 180) :: (171, 18, 179) :: (171, 15, 178) :: (171, 8, 177) :: (171, 5, 176) :: (171, 4, 175) :: (171, 3, 174) :: (171, 2, 173) :: (171, 1, 172) :: r)) K
  refine aw_putR (C := RX12) (T := TX12) (N := 34) (ci := 10) (idx := 60) (k := 30) (j := 30) tyX12 w (by decide) (by decide +kernel) rfl (by decide) rfl rfl rfl (tb_mem 1362 (by decide +kernel) (by decide +kernel)) inX12 tyX12_ok nmX12 rfl rfl rfl (show shp 171 = (20, 0) by decide +kernel) (show (171 : Int) ≤ ((186 : Nat) : Int) by decide) (fun w => ?_)
  show AW Γ l mX12_init d (b - 760) 135 [vR 171] [] (mkw ((171, 14, -1) :: q) 186 ((171, 30, 186) :: (171, 29, 185) :: (171, 28, 184) :: (171, 26, 183) :: (171, 25, 182) :: (171, 23, 181) :: (171, 22, 180) :: (171, 18, 179) :: (171, 15, 178) :: (171, 8, 177) :: (171, 5, 176) :: (171, 4, 175) :: (171, 3, 174) :: (171, 2, 173) :: (171, 1, 172) :: r)) K
  refine aw_aload_n (k' := 0) (by decide +kernel) rfl ?_
  refine aw_bipush (n := 6) (by decide +kernel) (by decide +kernel) ?_
  refine aw_newa (at9 := .int) (ty := .int) (kd := 0) (n9 := 6) (k := 1) (b' := (b - 761)) (t := 187) (n := 186) (q := (171, 14, -1) :: q) (r := (171, 30, 186) :: (171, 29, 185) :: (171, 28, 184) :: (171, 26, 183) :: (171, 25, 182) :: (171, 23, 181) :: (171, 22, 180) :: (171, 18, 179) :: (171, 15, 178) :: (171, 8, 177) :: (171, 5, 176) :: (171, 4, 175) :: (171, 3, 174) :: (171, 2, 173) :: (171, 1, 172) :: r) 6 (by decide) (by decide) w (show shp 187 = (0, 6) by decide +kernel) rfl (by decide) rfl (tb_mem 53 (by decide +kernel) (by decide +kernel)) (by decide +kernel) (by decide +kernel) (Nat.le_of_ble_eq_true rfl) (by decide +kernel) ⟨Nat.le_of_ble_eq_true rfl, Nat.le_of_ble_eq_true rfl⟩ (by omega) (fun w => ?_)
  show AW Γ l mX12_init d (b - 761) 140 [vR 171] [vR 187, vR 171] (mkw ((171, 14, -1) :: q) 187 ((171, 30, 186) :: (171, 29, 185) :: (171, 28, 184) :: (171, 26, 183) :: (171, 25, 182) :: (171, 23, 181) :: (171, 22, 180) :: (171, 18, 179) :: (171, 15, 178) :: (171, 8, 177) :: (171, 5, 176) :: (171, 4, 175) :: (171, 3, 174) :: (171, 2, 173) :: (171, 1, 172) :: r)) K
  refine aw_putR (C := RX12) (T := TX12) (N := 34) (ci := 10) (idx := 63) (k := 31) (j := 31) tyX12 w (by decide) (by decide +kernel) rfl (by decide) rfl rfl rfl (tb_mem 1363 (by decide +kernel) (by decide +kernel)) inX12 tyX12_ok nmX12 rfl rfl rfl (show shp 171 = (20, 0) by decide +kernel) (show (171 : Int) ≤ ((187 : Nat) : Int) by decide) (fun w => ?_)
  show AW Γ l mX12_init d (b - 761) 143 [vR 171] [] (mkw ((171, 14, -1) :: q) 187 ((171, 31, 187) :: (171, 30, 186) :: (171, 29, 185) :: (171, 28, 184) :: (171, 26, 183) :: (171, 25, 182) :: (171, 23, 181) :: (171, 22, 180) :: (171, 18, 179) :: (171, 15, 178) :: (171, 8, 177) :: (171, 5, 176) :: (171, 4, 175) :: (171, 3, 174) :: (171, 2, 173) :: (171, 1, 172) :: r)) K
  refine aw_aload_n (k' := 0) (by decide +kernel) rfl ?_
  refine aw_bipush (n := 100) (by decide +kernel) (by decide +kernel) ?_
  refine aw_newa (at9 := .boolean) (ty := .boolean) (kd := 2) (n9 := 100) (k := 7) (b' := (b - 768)) (t := 188) (n := 187) (q := (171, 14, -1) :: q) (r := (171, 31, 187) :: (171, 30, 186) :: (171, 29, 185) :: (171, 28, 184) :: (171, 26, 183) :: (171, 25, 182) :: (171, 23, 181) :: (171, 22, 180) :: (171, 18, 179) :: (171, 15, 178) :: (171, 8, 177) :: (171, 5, 176) :: (171, 4, 175) :: (171, 3, 174) :: (171, 2, 173) :: (171, 1, 172) :: r) 100 (by decide) (by decide) w (show shp 188 = (2, 100) by decide +kernel) rfl (by decide) rfl (tb_mem 1435 (by decide +kernel) (by decide +kernel)) (by decide +kernel) (by decide +kernel) (Nat.le_of_ble_eq_true rfl) (by decide +kernel) ⟨Nat.le_of_ble_eq_true rfl, Nat.le_of_ble_eq_true rfl⟩ (by omega) (fun w => ?_)
  show AW Γ l mX12_init d (b - 768) 148 [vR 171] [vR 188, vR 171] (mkw ((171, 14, -1) :: q) 188 ((171, 31, 187) :: (171, 30, 186) :: (171, 29, 185) :: (171, 28, 184) :: (171, 26, 183) :: (171, 25, 182) :: (171, 23, 181) :: (171, 22, 180) :: (171, 18, 179) :: (171, 15, 178) :: (171, 8, 177) :: (171, 5, 176) :: (171, 4, 175) :: (171, 3, 174) :: (171, 2, 173) :: (171, 1, 172) :: r)) K
  refine aw_putR (C := RX12) (T := TX12) (N := 34) (ci := 10) (idx := 66) (k := 32) (j := 32) tyX12 w (by decide) (by decide +kernel) rfl (by decide) rfl rfl rfl (tb_mem 1364 (by decide +kernel) (by decide +kernel)) inX12 tyX12_ok nmX12 rfl rfl rfl (show shp 171 = (20, 0) by decide +kernel) (show (171 : Int) ≤ ((188 : Nat) : Int) by decide) (fun w => ?_)
  show AW Γ l mX12_init d (b - 768) 151 [vR 171] [] (mkw ((171, 14, -1) :: q) 188 ((171, 32, 188) :: (171, 31, 187) :: (171, 30, 186) :: (171, 29, 185) :: (171, 28, 184) :: (171, 26, 183) :: (171, 25, 182) :: (171, 23, 181) :: (171, 22, 180) :: (171, 18, 179) :: (171, 15, 178) :: (171, 8, 177) :: (171, 5, 176) :: (171, 4, 175) :: (171, 3, 174) :: (171, 2, 173) :: (171, 1, 172) :: r)) K
  refine aw_aload_n (k' := 0) (by decide +kernel) rfl ?_
  refine aw_bipush (n := 64) (by decide +kernel) (by decide +kernel) ?_
  refine aw_newa (at9 := .int) (ty := .int) (kd := 0) (n9 := 64) (k := 4) (b' := (b - 772)) (t := 189) (n := 188) (q := (171, 14, -1) :: q) (r := (171, 32, 188) :: (171, 31, 187) :: (171, 30, 186) :: (171, 29, 185) :: (171, 28, 184) :: (171, 26, 183) :: (171, 25, 182) :: (171, 23, 181) :: (171, 22, 180) :: (171, 18, 179) :: (171, 15, 178) :: (171, 8, 177) :: (171, 5, 176) :: (171, 4, 175) :: (171, 3, 174) :: (171, 2, 173) :: (171, 1, 172) :: r) 64 (by decide) (by decide) w (show shp 189 = (0, 64) by decide +kernel) rfl (by decide) rfl (tb_mem 53 (by decide +kernel) (by decide +kernel)) (by decide +kernel) (by decide +kernel) (Nat.le_of_ble_eq_true rfl) (by decide +kernel) ⟨Nat.le_of_ble_eq_true rfl, Nat.le_of_ble_eq_true rfl⟩ (by omega) (fun w => ?_)
  show AW Γ l mX12_init d (b - 772) 156 [vR 171] [vR 189, vR 171] (mkw ((171, 14, -1) :: q) 189 ((171, 32, 188) :: (171, 31, 187) :: (171, 30, 186) :: (171, 29, 185) :: (171, 28, 184) :: (171, 26, 183) :: (171, 25, 182) :: (171, 23, 181) :: (171, 22, 180) :: (171, 18, 179) :: (171, 15, 178) :: (171, 8, 177) :: (171, 5, 176) :: (171, 4, 175) :: (171, 3, 174) :: (171, 2, 173) :: (171, 1, 172) :: r)) K
  refine aw_putR (C := RX12) (T := TX12) (N := 34) (ci := 10) (idx := 70) (k := 33) (j := 33) tyX12 w (by decide) (by decide +kernel) rfl (by decide) rfl rfl rfl (tb_mem 1365 (by decide +kernel) (by decide +kernel)) inX12 tyX12_ok nmX12 rfl rfl rfl (show shp 171 = (20, 0) by decide +kernel) (show (171 : Int) ≤ ((189 : Nat) : Int) by decide) (fun w => ?_)
  show AW Γ l mX12_init d (b - 772) 159 [vR 171] [] (mkw ((171, 14, -1) :: q) 189 ((171, 33, 189) :: (171, 32, 188) :: (171, 31, 187) :: (171, 30, 186) :: (171, 29, 185) :: (171, 28, 184) :: (171, 26, 183) :: (171, 25, 182) :: (171, 23, 181) :: (171, 22, 180) :: (171, 18, 179) :: (171, 15, 178) :: (171, 8, 177) :: (171, 5, 176) :: (171, 4, 175) :: (171, 3, 174) :: (171, 2, 173) :: (171, 1, 172) :: r)) K
  refine aw_aload_n (k' := 0) (by decide +kernel) rfl ?_
  refine gfX12_13 rfl (by decide +kernel) ⟨(show shp 171 = (20, 0) by decide +kernel), (show (171 : Int) ≤ ((189 : Nat) : Int) by decide)⟩ ?_
  refine AW.topR (show lkR ((171, 33, 189) :: (171, 32, 188) :: (171, 31, 187) :: (171, 30, 186) :: (171, 29, 185) :: (171, 28, 184) :: (171, 26, 183) :: (171, 25, 182) :: (171, 23, 181) :: (171, 22, 180) :: (171, 18, 179) :: (171, 15, 178) :: (171, 8, 177) :: (171, 5, 176) :: (171, 4, 175) :: (171, 3, 174) :: (171, 2, 173) :: (171, 1, 172) :: r) 171 1 = 172 from rfl) ?_
  refine aw_bipush (n := 7) (by decide +kernel) (by decide +kernel) ?_
  refine aw_iconst (n := 1) (by decide +kernel) ?_
  refine aw_iast (t := 172) (j := 7) (x := 1) (n := 2184) (by decide +kernel) ⟨(show shp 172 = (0, 2184) by decide +kernel), (show (172 : Int) ≤ ((189 : Nat) : Int) by decide)⟩ (by decide +kernel) (by decide +kernel) ?_
  rw [show wr 7 = 7 by decide +kernel]
  have w := w.pq (t := 172) (j := 7) (v := 1) (by decide)
  show AW Γ l mX12_init d (b - 772) 167 [vR 171] [] (mkw ((172, 7, 1) :: (171, 14, -1) :: q) 189 ((171, 33, 189) :: (171, 32, 188) :: (171, 31, 187) :: (171, 30, 186) :: (171, 29, 185) :: (171, 28, 184) :: (171, 26, 183) :: (171, 25, 182) :: (171, 23, 181) :: (171, 22, 180) :: (171, 18, 179) :: (171, 15, 178) :: (171, 8, 177) :: (171, 5, 176) :: (171, 4, 175) :: (171, 3, 174) :: (171, 2, 173) :: (171, 1, 172) :: r)) K
  refine aw_aload_n (k' := 0) (by decide +kernel) rfl ?_
  refine gfX12_13 rfl (by decide +kernel) ⟨(show shp 171 = (20, 0) by decide +kernel), (show (171 : Int) ≤ ((189 : Nat) : Int) by decide)⟩ ?_
  refine AW.topR (show lkR ((171, 33, 189) :: (171, 32, 188) :: (171, 31, 187) :: (171, 30, 186) :: (171, 29, 185) :: (171, 28, 184) :: (171, 26, 183) :: (171, 25, 182) :: (171, 23, 181) :: (171, 22, 180) :: (171, 18, 179) :: (171, 15, 178) :: (171, 8, 177) :: (171, 5, 176) :: (171, 4, 175) :: (171, 3, 174) :: (171, 2, 173) :: (171, 1, 172) :: r) 171 1 = 172 from rfl) ?_
  refine aw_iconst (n := 3) (by decide +kernel) ?_
  refine aw_bipush (n := 20) (by decide +kernel) (by decide +kernel) ?_
  refine aw_iast (t := 172) (j := 3) (x := 20) (n := 2184) (by decide +kernel) ⟨(show shp 172 = (0, 2184) by decide +kernel), (show (172 : Int) ≤ ((189 : Nat) : Int) by decide)⟩ (by decide +kernel) (by decide +kernel) ?_
  rw [show wr 3 = 3 by decide +kernel]
  have w := w.pq (t := 172) (j := 3) (v := 20) (by decide)
  show AW Γ l mX12_init d (b - 772) 175 [vR 171] [] (mkw ((172, 3, 20) :: (172, 7, 1) :: (171, 14, -1) :: q) 189 ((171, 33, 189) :: (171, 32, 188) :: (171, 31, 187) :: (171, 30, 186) :: (171, 29, 185) :: (171, 28, 184) :: (171, 26, 183) :: (171, 25, 182) :: (171, 23, 181) :: (171, 22, 180) :: (171, 18, 179) :: (171, 15, 178) :: (171, 8, 177) :: (171, 5, 176) :: (171, 4, 175) :: (171, 3, 174) :: (171, 2, 173) :: (171, 1, 172) :: r)) K
  exact aw_vret (by decide +kernel) rfl (k w)
