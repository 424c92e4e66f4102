/-! THE WORDS OF THE TABLES THAT THE CODE WANTS, by their places; the rules of each field; what a call of each method wants -/
theorem tb_mem {w : Cond} (i : Nat) (h : tables_1[i]? = some w) (g : goodWord w = true) : w ∈ gw := gw_mem (List.mem_append_right _ (List.mem_of_getElem? h)) g
theorem pv_mem {y : MethodName} {n : Nat} (i : Nat) (h : lw_privs[i]? = some (y, n)) (g : goodWord (Cond.selects y.cls y y) = true) : Cond.selects y.cls y y ∈ gw := gw_mem (List.mem_append_left _ (List.mem_map.mpr ⟨(y, n), List.mem_of_getElem? h, rfl⟩)) g
theorem ti1 {w : Cond} (h : w ∈ tables_1_1) : w ∈ tables_1 := List.mem_append_left _ h
theorem tm1 {w : Cond} (i : Nat) (h : tables_1_1[i]? = some w) (g : goodWord w = true) : w ∈ gw := gw_mem (List.mem_append_right _ (ti1 (List.mem_of_getElem? h))) g
theorem tn1 {w : Cond} (i : Nat) (h : tables_1_1[i]? = some w) (g : isNest w = true) : w ∈ nw := nw_mem (ti1 (List.mem_of_getElem? h)) g
theorem ti2 {w : Cond} (h : w ∈ tables_1_2) : w ∈ tables_1 := List.mem_append_right _ (List.mem_append_left _ h)
theorem tm2 {w : Cond} (i : Nat) (h : tables_1_2[i]? = some w) (g : goodWord w = true) : w ∈ gw := gw_mem (List.mem_append_right _ (ti2 (List.mem_of_getElem? h))) g
theorem tn2 {w : Cond} (i : Nat) (h : tables_1_2[i]? = some w) (g : isNest w = true) : w ∈ nw := nw_mem (ti2 (List.mem_of_getElem? h)) g
theorem ti3 {w : Cond} (h : w ∈ tables_1_3) : w ∈ tables_1 := List.mem_append_right _ (List.mem_append_right _ (List.mem_append_left _ h))
theorem tm3 {w : Cond} (i : Nat) (h : tables_1_3[i]? = some w) (g : goodWord w = true) : w ∈ gw := gw_mem (List.mem_append_right _ (ti3 (List.mem_of_getElem? h))) g
theorem tn3 {w : Cond} (i : Nat) (h : tables_1_3[i]? = some w) (g : isNest w = true) : w ∈ nw := nw_mem (ti3 (List.mem_of_getElem? h)) g
theorem ti4 {w : Cond} (h : w ∈ tables_1_4) : w ∈ tables_1 := List.mem_append_right _ (List.mem_append_right _ (List.mem_append_right _ (List.mem_append_left _ h)))
theorem tm4 {w : Cond} (i : Nat) (h : tables_1_4[i]? = some w) (g : goodWord w = true) : w ∈ gw := gw_mem (List.mem_append_right _ (ti4 (List.mem_of_getElem? h))) g
theorem tn4 {w : Cond} (i : Nat) (h : tables_1_4[i]? = some w) (g : isNest w = true) : w ∈ nw := nw_mem (ti4 (List.mem_of_getElem? h)) g
theorem ti5 {w : Cond} (h : w ∈ tables_1_5) : w ∈ tables_1 := List.mem_append_right _ (List.mem_append_right _ (List.mem_append_right _ (List.mem_append_right _ (List.mem_append_left _ h))))
theorem tm5 {w : Cond} (i : Nat) (h : tables_1_5[i]? = some w) (g : goodWord w = true) : w ∈ gw := gw_mem (List.mem_append_right _ (ti5 (List.mem_of_getElem? h))) g
theorem tn5 {w : Cond} (i : Nat) (h : tables_1_5[i]? = some w) (g : isNest w = true) : w ∈ nw := nw_mem (ti5 (List.mem_of_getElem? h)) g
theorem ti6 {w : Cond} (h : w ∈ tables_1_6) : w ∈ tables_1 := List.mem_append_right _ (List.mem_append_right _ (List.mem_append_right _ (List.mem_append_right _ (List.mem_append_right _ (List.mem_append_left _ h)))))
theorem tm6 {w : Cond} (i : Nat) (h : tables_1_6[i]? = some w) (g : goodWord w = true) : w ∈ gw := gw_mem (List.mem_append_right _ (ti6 (List.mem_of_getElem? h))) g
theorem tn6 {w : Cond} (i : Nat) (h : tables_1_6[i]? = some w) (g : isNest w = true) : w ∈ nw := nw_mem (ti6 (List.mem_of_getElem? h)) g
theorem ti7 {w : Cond} (h : w ∈ tables_1_7) : w ∈ tables_1 := List.mem_append_right _ (List.mem_append_right _ (List.mem_append_right _ (List.mem_append_right _ (List.mem_append_right _ (List.mem_append_right _ (List.mem_append_left _ h))))))
theorem tm7 {w : Cond} (i : Nat) (h : tables_1_7[i]? = some w) (g : goodWord w = true) : w ∈ gw := gw_mem (List.mem_append_right _ (ti7 (List.mem_of_getElem? h))) g
theorem tn7 {w : Cond} (i : Nat) (h : tables_1_7[i]? = some w) (g : isNest w = true) : w ∈ nw := nw_mem (ti7 (List.mem_of_getElem? h)) g
theorem ti8 {w : Cond} (h : w ∈ tables_1_8) : w ∈ tables_1 := List.mem_append_right _ (List.mem_append_right _ (List.mem_append_right _ (List.mem_append_right _ (List.mem_append_right _ (List.mem_append_right _ (List.mem_append_right _ (List.mem_append_left _ h)))))))
theorem tm8 {w : Cond} (i : Nat) (h : tables_1_8[i]? = some w) (g : goodWord w = true) : w ∈ gw := gw_mem (List.mem_append_right _ (ti8 (List.mem_of_getElem? h))) g
theorem tn8 {w : Cond} (i : Nat) (h : tables_1_8[i]? = some w) (g : isNest w = true) : w ∈ nw := nw_mem (ti8 (List.mem_of_getElem? h)) g
theorem ti9 {w : Cond} (h : w ∈ tables_1_9) : w ∈ tables_1 := List.mem_append_right _ (List.mem_append_right _ (List.mem_append_right _ (List.mem_append_right _ (List.mem_append_right _ (List.mem_append_right _ (List.mem_append_right _ (List.mem_append_right _ (h))))))))
theorem tm9 {w : Cond} (i : Nat) (h : tables_1_9[i]? = some w) (g : goodWord w = true) : w ∈ gw := gw_mem (List.mem_append_right _ (ti9 (List.mem_of_getElem? h))) g
theorem tn9 {w : Cond} (i : Nat) (h : tables_1_9[i]? = some w) (g : isNest w = true) : w ∈ nw := nw_mem (ti9 (List.mem_of_getElem? h)) g
theorem nt_mem {w : Cond} (i : Nat) (h : tables_1[i]? = some w) (g : isNest w = true) : w ∈ nw := nw_mem (List.mem_of_getElem? h) g
theorem nar_rf (Γ : Cfg) (x : Int) {n : String} : narrow (.object n) (conc Γ (vR x)) = conc Γ (vR x) := by
  show narrow _ (va_rf _) = va_rf _
  cases rf Γ x <;> rfl
theorem fits_rf (Γ : Cfg) (x : Int) {n : String} : fits (.object n) (conc Γ (vR x)) = true := by
  show fits _ (va_rf _) = true
  cases rf Γ x <;> rfl
/-- the references that stand, by the number of the object or row -/
def rcT : List (List Int) := [[], [2, 4, 8, 17, 26, 35, 38, 41, 44, 153, 160, 161, 167, 170], [3], [], [5, 6, 7], [], [], [], [9, 10, 11, 12, 13, 14, 15, 16], [], [], [], [], [], [], [], [], [18, 19, 20, 21, 22, 23, 24, 25], [], [], [], [], [], [], [], [], [27, 28, 29, 30, 31, 32, 33, 34], [], [], [], [], [], [], [], [], [36, 37], [], [], [39, 40], [], [], [42, 43], [], [], [45, 54, 63, 72, 81, 90, 99, 108, 117, 126, 135, 144], [46, 47, 48, 49, 50, 51, 52, 53], [], [], [], [], [], [], [], [], [55, 56, 57, 58, 59, 60, 61, 62], [], [], [], [], [], [], [], [], [64, 65, 66, 67, 68, 69, 70, 71], [], [], [], [], [], [], [], [], [73, 74, 75, 76, 77, 78, 79, 80], [], [], [], [], [], [], [], [], [82, 83, 84, 85, 86, 87, 88, 89], [], [], [], [], [], [], [], [], [91, 92, 93, 94, 95, 96, 97, 98], [], [], [], [], [], [], [], [], [100, 101, 102, 103, 104, 105, 106, 107], [], [], [], [], [], [], [], [], [109, 110, 111, 112, 113, 114, 115, 116], [], [], [], [], [], [], [], [], [118, 119, 120, 121, 122, 123, 124, 125], [], [], [], [], [], [], [], [], [127, 128, 129, 130, 131, 132, 133, 134], [], [], [], [], [], [], [], [], [136, 137, 138, 139, 140, 141, 142, 143], [], [], [], [], [], [], [], [], [145, 146, 147, 148, 149, 150, 151, 152], [], [], [], [], [], [], [], [], [35, 154, 155, 156], [0, 157], [], [], [154, 158], [157, 159], [158, 0], [153], [153, 162, 163, 164, 165, 166], [], [], [], [], [], [168, 169], [], [], [], [0, 172, 173, 174, 175, 176, 0, 0, 177, 0, 0, 0, 0, 0, 0, 178, 0, 0, 179, 0, 0, 0, 180, 181, 0, 182, 183, 0, 184, 185, 186, 187, 188, 189], [], [], [], [], [], [], [], [], [], [], [], [], [], [], [], [], [], [], []]
def RC (t j : Int) : Int := (rcT.getD t.toNat []).getD j.toNat 0
/-- the world when all is made -/
abbrev stt (g : Int → Int → Int) : HP := (g, RC, NN)
def ln (r : Int) : Int := (shp r).2
/-- a row of ints -/
def IA (r : Int) : Prop := (shp r).1 = 0
def OB (t : Int) (ci : Nat) : Prop := shp t = (10 + ci, 0)
theorem IA.at {g : Int → Int → Int} {r : Int} (h : IA r) : isA (stt g) r 0 (shp r).2 := by
  have h1 := shp_lt (t := r) (by rw [show (shp r).1 = 0 from h]; decide)
  refine ⟨Prod.ext h rfl, ?_⟩
  show r ≤ ((190 : Nat) : Int)
  omega
theorem OB.at {g : Int → Int → Int} {t : Int} {ci : Nat} (h : OB t ci) (hc : ci < 11) : isO (stt g) t ci := by
  have h1 := shp_lt (t := t) (by rw [show shp t = _ from h]; simp only; omega)
  refine ⟨h, ?_⟩
  show t ≤ ((190 : Nat) : Int)
  omega
theorem AW.topR {Γ : Cfg} {l : Launch} {M : MT} {d b pc : Nat} {L S : List AV} {h : HP} {K : Ou → HP → Prop} {r q : Int} (e : q = r) (k : AW Γ l M d b pc L (vR r :: S) h K) : AW Γ l M d b pc L (vR q :: S) h K := by rw [e]; exact k
theorem inX0_0 : (u_ws RX0 TX0 8).all (fun w => decide (w ∈ lw_tbl) && goodWord w) = true := by decide +kernel
theorem inX0 : ∀ w ∈ u_ws RX0 TX0 8, w ∈ gw := fun w h => by
  have := List.all_eq_true.mp inX0_0 w h
  simp only [Bool.and_eq_true, decide_eq_true_eq] at this
  exact gw_mem this.1 this.2
theorem inX1_0 : (u_ws RX1 TX1 1).all (fun w => decide (w ∈ lw_tbl) && goodWord w) = true := by decide +kernel
theorem inX1 : ∀ w ∈ u_ws RX1 TX1 1, w ∈ gw := fun w h => by
  have := List.all_eq_true.mp inX1_0 w h
  simp only [Bool.and_eq_true, decide_eq_true_eq] at this
  exact gw_mem this.1 this.2
theorem inX2_0 : (u_ws RX2 TX2 15).all (fun w => decide (w ∈ lw_tbl) && goodWord w) = true := by decide +kernel
theorem inX2 : ∀ w ∈ u_ws RX2 TX2 15, w ∈ gw := fun w h => by
  have := List.all_eq_true.mp inX2_0 w h
  simp only [Bool.and_eq_true, decide_eq_true_eq] at this
  exact gw_mem this.1 this.2
theorem inX4_0 : (u_ws RX4 TX4 8).all (fun w => decide (w ∈ lw_tbl) && goodWord w) = true := by decide +kernel
theorem inX4 : ∀ w ∈ u_ws RX4 TX4 8, w ∈ gw := fun w h => by
  have := List.all_eq_true.mp inX4_0 w h
  simp only [Bool.and_eq_true, decide_eq_true_eq] at this
  exact gw_mem this.1 this.2
theorem inX5_0 : (u_ws RX5 TX5 9).all (fun w => decide (w ∈ lw_tbl) && goodWord w) = true := by decide +kernel
theorem inX5 : ∀ w ∈ u_ws RX5 TX5 9, w ∈ gw := fun w h => by
  have := List.all_eq_true.mp inX5_0 w h
  simp only [Bool.and_eq_true, decide_eq_true_eq] at this
  exact gw_mem this.1 this.2
theorem inX6_0 : (u_ws RX6 TX6 3).all (fun w => decide (w ∈ lw_tbl) && goodWord w) = true := by decide +kernel
theorem inX6 : ∀ w ∈ u_ws RX6 TX6 3, w ∈ gw := fun w h => by
  have := List.all_eq_true.mp inX6_0 w h
  simp only [Bool.and_eq_true, decide_eq_true_eq] at this
  exact gw_mem this.1 this.2
theorem inX7_0 : (u_ws RX7 TX7 4).all (fun w => decide (w ∈ lw_tbl) && goodWord w) = true := by decide +kernel
theorem inX7 : ∀ w ∈ u_ws RX7 TX7 4, w ∈ gw := fun w h => by
  have := List.all_eq_true.mp inX7_0 w h
  simp only [Bool.and_eq_true, decide_eq_true_eq] at this
  exact gw_mem this.1 this.2
theorem inX9_0 : (u_ws RX9 TX9 2).all (fun w => decide (w ∈ lw_tbl) && goodWord w) = true := by decide +kernel
theorem inX9 : ∀ w ∈ u_ws RX9 TX9 2, w ∈ gw := fun w h => by
  have := List.all_eq_true.mp inX9_0 w h
  simp only [Bool.and_eq_true, decide_eq_true_eq] at this
  exact gw_mem this.1 this.2
theorem inX10_0 : (u_ws RX10 TX10 7).all (fun w => decide (w ∈ lw_tbl) && goodWord w) = true := by decide +kernel
theorem inX10 : ∀ w ∈ u_ws RX10 TX10 7, w ∈ gw := fun w h => by
  have := List.all_eq_true.mp inX10_0 w h
  simp only [Bool.and_eq_true, decide_eq_true_eq] at this
  exact gw_mem this.1 this.2
theorem inX11_0 : (u_ws RX11 TX11 18).all (fun w => decide (w ∈ lw_tbl) && goodWord w) = true := by decide +kernel
theorem inX11 : ∀ w ∈ u_ws RX11 TX11 18, w ∈ gw := fun w h => by
  have := List.all_eq_true.mp inX11_0 w h
  simp only [Bool.and_eq_true, decide_eq_true_eq] at this
  exact gw_mem this.1 this.2
theorem inX12_0 : (u_ws RX12 TX12 34).all (fun w => decide (w ∈ lw_tbl) && goodWord w) = true := by decide +kernel
theorem inX12 : ∀ w ∈ u_ws RX12 TX12 34, w ∈ gw := fun w h => by
  have := List.all_eq_true.mp inX12_0 w h
  simp only [Bool.and_eq_true, decide_eq_true_eq] at this
  exact gw_mem this.1 this.2
theorem flX11_10 : Cond.fieldLink RX11 10 RX11 (TX11 0).2.1 (TX11 0).2.2.1 ∈ gw := tm2 101 (by decide +kernel) (by decide +kernel)
theorem gfX11_10 {Γ : Cfg} {l : Launch} {M : MT} {d b pc : Nat} {L S : List AV} {h : HP} {K : Ou → HP → Prop} {t : Int} (hM : M.1 = RX11) (dg : decode M.2.1 pc = .ok (.getfield 10, 3)) (ho : isO h t 9) (kk : AW Γ l M d b (pc + 3) L (vR (h.2.1 t 0) :: S) h K) : AW Γ l M d b pc L (vR t :: S) h K :=
  aw_getf0 (ci := 9) (C := RX11) (T := TX11) (N := 18) (k := 0) (q := (1, 0)) dg rfl (by decide) rfl (fun hown hts hnw => Or.inl (by rw [hM]; exact hts _ flX11_10)) inX11 rfl ho kk
theorem flX11_19 : Cond.fieldLink RX11 19 RX11 (TX11 1).2.1 (TX11 1).2.2.1 ∈ gw := tm2 102 (by decide +kernel) (by decide +kernel)
theorem gfX11_19 {Γ : Cfg} {l : Launch} {M : MT} {d b pc : Nat} {L S : List AV} {h : HP} {K : Ou → HP → Prop} {t : Int} (hM : M.1 = RX11) (dg : decode M.2.1 pc = .ok (.getfield 19, 3)) (ho : isO h t 9) (kk : AW Γ l M d b (pc + 3) L (vR (h.2.1 t 1) :: S) h K) : AW Γ l M d b pc L (vR t :: S) h K :=
  aw_getf0 (ci := 9) (C := RX11) (T := TX11) (N := 18) (k := 1) (q := (1, 1)) dg rfl (by decide) rfl (fun hown hts hnw => Or.inl (by rw [hM]; exact hts _ flX11_19)) inX11 rfl ho kk
theorem flX11_26 : Cond.fieldLink RX11 26 RX11 (TX11 2).2.1 (TX11 2).2.2.1 ∈ gw := tm2 103 (by decide +kernel) (by decide +kernel)
theorem gfX11_26 {Γ : Cfg} {l : Launch} {M : MT} {d b pc : Nat} {L S : List AV} {h : HP} {K : Ou → HP → Prop} {t : Int} (hM : M.1 = RX11) (dg : decode M.2.1 pc = .ok (.getfield 26, 3)) (ho : isO h t 9) (kk : AW Γ l M d b (pc + 3) L (vR (h.2.1 t 2) :: S) h K) : AW Γ l M d b pc L (vR t :: S) h K :=
  aw_getf0 (ci := 9) (C := RX11) (T := TX11) (N := 18) (k := 2) (q := (1, 2)) dg rfl (by decide) rfl (fun hown hts hnw => Or.inl (by rw [hM]; exact hts _ flX11_26)) inX11 rfl ho kk
theorem flX11_30 : Cond.fieldLink RX11 30 RX11 (TX11 3).2.1 (TX11 3).2.2.1 ∈ gw := tm2 104 (by decide +kernel) (by decide +kernel)
theorem gfX11_30 {Γ : Cfg} {l : Launch} {M : MT} {d b pc : Nat} {L S : List AV} {h : HP} {K : Ou → HP → Prop} {t : Int} (hM : M.1 = RX11) (dg : decode M.2.1 pc = .ok (.getfield 30, 3)) (ho : isO h t 9) (kk : AW Γ l M d b (pc + 3) L (vR (h.2.1 t 3) :: S) h K) : AW Γ l M d b pc L (vR t :: S) h K :=
  aw_getf0 (ci := 9) (C := RX11) (T := TX11) (N := 18) (k := 3) (q := (1, 3)) dg rfl (by decide) rfl (fun hown hts hnw => Or.inl (by rw [hM]; exact hts _ flX11_30)) inX11 rfl ho kk
theorem flX11_33 : Cond.fieldLink RX11 33 RX11 (TX11 4).2.1 (TX11 4).2.2.1 ∈ gw := tm2 105 (by decide +kernel) (by decide +kernel)
theorem gfX11_33 {Γ : Cfg} {l : Launch} {M : MT} {d b pc : Nat} {L S : List AV} {h : HP} {K : Ou → HP → Prop} {t : Int} (hM : M.1 = RX11) (dg : decode M.2.1 pc = .ok (.getfield 33, 3)) (ho : isO h t 9) (kk : AW Γ l M d b (pc + 3) L (vR (h.2.1 t 4) :: S) h K) : AW Γ l M d b pc L (vR t :: S) h K :=
  aw_getf0 (ci := 9) (C := RX11) (T := TX11) (N := 18) (k := 4) (q := (1, 4)) dg rfl (by decide) rfl (fun hown hts hnw => Or.inl (by rw [hM]; exact hts _ flX11_33)) inX11 rfl ho kk
theorem flX11_39 : Cond.fieldLink RX11 39 RX11 (TX11 5).2.1 (TX11 5).2.2.1 ∈ gw := tm2 106 (by decide +kernel) (by decide +kernel)
theorem gfX11_39 {Γ : Cfg} {l : Launch} {M : MT} {d b pc : Nat} {L S : List AV} {h : HP} {K : Ou → HP → Prop} {t : Int} (hM : M.1 = RX11) (dg : decode M.2.1 pc = .ok (.getfield 39, 3)) (ho : isO h t 9) (kk : AW Γ l M d b (pc + 3) L (vR (h.2.1 t 5) :: S) h K) : AW Γ l M d b pc L (vR t :: S) h K :=
  aw_getf0 (ci := 9) (C := RX11) (T := TX11) (N := 18) (k := 5) (q := (1, 5)) dg rfl (by decide) rfl (fun hown hts hnw => Or.inl (by rw [hM]; exact hts _ flX11_39)) inX11 rfl ho kk
theorem flX11_43 : Cond.fieldLink RX11 43 RX11 (TX11 6).2.1 (TX11 6).2.2.1 ∈ gw := tm2 107 (by decide +kernel) (by decide +kernel)
theorem gfX11_43 {Γ : Cfg} {l : Launch} {M : MT} {d b pc : Nat} {L S : List AV} {h : HP} {K : Ou → HP → Prop} {t : Int} (hM : M.1 = RX11) (dg : decode M.2.1 pc = .ok (.getfield 43, 3)) (ho : isO h t 9) (kk : AW Γ l M d b (pc + 3) L (vR (h.2.1 t 6) :: S) h K) : AW Γ l M d b pc L (vR t :: S) h K :=
  aw_getf0 (ci := 9) (C := RX11) (T := TX11) (N := 18) (k := 6) (q := (1, 6)) dg rfl (by decide) rfl (fun hown hts hnw => Or.inl (by rw [hM]; exact hts _ flX11_43)) inX11 rfl ho kk
theorem flX11_46 : Cond.fieldLink RX11 46 RX11 (TX11 7).2.1 (TX11 7).2.2.1 ∈ gw := tm2 108 (by decide +kernel) (by decide +kernel)
theorem gfX11_46 {Γ : Cfg} {l : Launch} {M : MT} {d b pc : Nat} {L S : List AV} {h : HP} {K : Ou → HP → Prop} {t : Int} (hM : M.1 = RX11) (dg : decode M.2.1 pc = .ok (.getfield 46, 3)) (ho : isO h t 9) (kk : AW Γ l M d b (pc + 3) L (vR (h.2.1 t 7) :: S) h K) : AW Γ l M d b pc L (vR t :: S) h K :=
  aw_getf0 (ci := 9) (C := RX11) (T := TX11) (N := 18) (k := 7) (q := (1, 7)) dg rfl (by decide) rfl (fun hown hts hnw => Or.inl (by rw [hM]; exact hts _ flX11_46)) inX11 rfl ho kk
theorem flX11_49 : Cond.fieldLink RX11 49 RX11 (TX11 8).2.1 (TX11 8).2.2.1 ∈ gw := tm2 109 (by decide +kernel) (by decide +kernel)
theorem gfX11_49 {Γ : Cfg} {l : Launch} {M : MT} {d b pc : Nat} {L S : List AV} {h : HP} {K : Ou → HP → Prop} {t : Int} (hM : M.1 = RX11) (dg : decode M.2.1 pc = .ok (.getfield 49, 3)) (ho : isO h t 9) (kk : AW Γ l M d b (pc + 3) L (vR (h.2.1 t 8) :: S) h K) : AW Γ l M d b pc L (vR t :: S) h K :=
  aw_getf0 (ci := 9) (C := RX11) (T := TX11) (N := 18) (k := 8) (q := (1, 8)) dg rfl (by decide) rfl (fun hown hts hnw => Or.inl (by rw [hM]; exact hts _ flX11_49)) inX11 rfl ho kk
theorem flX11_58 : Cond.fieldLink RX11 58 RX11 (TX11 9).2.1 (TX11 9).2.2.1 ∈ gw := tm2 110 (by decide +kernel) (by decide +kernel)
theorem gfX11_58 {Γ : Cfg} {l : Launch} {M : MT} {d b pc : Nat} {L S : List AV} {h : HP} {K : Ou → HP → Prop} {t : Int} (hM : M.1 = RX11) (dg : decode M.2.1 pc = .ok (.getfield 58, 3)) (ho : isO h t 9) (kk : AW Γ l M d b (pc + 3) L (vR (h.2.1 t 9) :: S) h K) : AW Γ l M d b pc L (vR t :: S) h K :=
  aw_getf0 (ci := 9) (C := RX11) (T := TX11) (N := 18) (k := 9) (q := (1, 9)) dg rfl (by decide) rfl (fun hown hts hnw => Or.inl (by rw [hM]; exact hts _ flX11_58)) inX11 rfl ho kk
theorem flX11_67 : Cond.fieldLink RX11 67 RX11 (TX11 10).2.1 (TX11 10).2.2.1 ∈ gw := tm2 111 (by decide +kernel) (by decide +kernel)
theorem gfX11_67 {Γ : Cfg} {l : Launch} {M : MT} {d b pc : Nat} {L S : List AV} {h : HP} {K : Ou → HP → Prop} {t : Int} (hM : M.1 = RX11) (dg : decode M.2.1 pc = .ok (.getfield 67, 3)) (ho : isO h t 9) (kk : AW Γ l M d b (pc + 3) L (vR (h.2.1 t 10) :: S) h K) : AW Γ l M d b pc L (vR t :: S) h K :=
  aw_getf0 (ci := 9) (C := RX11) (T := TX11) (N := 18) (k := 10) (q := (1, 10)) dg rfl (by decide) rfl (fun hown hts hnw => Or.inl (by rw [hM]; exact hts _ flX11_67)) inX11 rfl ho kk
theorem flX11_74 : Cond.fieldLink RX11 74 RX11 (TX11 11).2.1 (TX11 11).2.2.1 ∈ gw := tm2 112 (by decide +kernel) (by decide +kernel)
theorem gfX11_74 {Γ : Cfg} {l : Launch} {M : MT} {d b pc : Nat} {L S : List AV} {h : HP} {K : Ou → HP → Prop} {t : Int} (hM : M.1 = RX11) (dg : decode M.2.1 pc = .ok (.getfield 74, 3)) (ho : isO h t 9) (kk : AW Γ l M d b (pc + 3) L (vR (h.2.1 t 11) :: S) h K) : AW Γ l M d b pc L (vR t :: S) h K :=
  aw_getf0 (ci := 9) (C := RX11) (T := TX11) (N := 18) (k := 11) (q := (1, 11)) dg rfl (by decide) rfl (fun hown hts hnw => Or.inl (by rw [hM]; exact hts _ flX11_74)) inX11 rfl ho kk
theorem flX11_81 : Cond.fieldLink RX11 81 RX11 (TX11 12).2.1 (TX11 12).2.2.1 ∈ gw := tm2 113 (by decide +kernel) (by decide +kernel)
theorem gfX11_81 {Γ : Cfg} {l : Launch} {M : MT} {d b pc : Nat} {L S : List AV} {h : HP} {K : Ou → HP → Prop} {t : Int} (hM : M.1 = RX11) (dg : decode M.2.1 pc = .ok (.getfield 81, 3)) (ho : isO h t 9) (kk : AW Γ l M d b (pc + 3) L (vR (h.2.1 t 12) :: S) h K) : AW Γ l M d b pc L (vR t :: S) h K :=
  aw_getf0 (ci := 9) (C := RX11) (T := TX11) (N := 18) (k := 12) (q := (1, 12)) dg rfl (by decide) rfl (fun hown hts hnw => Or.inl (by rw [hM]; exact hts _ flX11_81)) inX11 rfl ho kk
theorem flX11_85 : Cond.fieldLink RX11 85 RX11 (TX11 13).2.1 (TX11 13).2.2.1 ∈ gw := tm2 114 (by decide +kernel) (by decide +kernel)
theorem gfX11_85 {Γ : Cfg} {l : Launch} {M : MT} {d b pc : Nat} {L S : List AV} {h : HP} {K : Ou → HP → Prop} {t : Int} (hM : M.1 = RX11) (dg : decode M.2.1 pc = .ok (.getfield 85, 3)) (ho : isO h t 9) (kk : AW Γ l M d b (pc + 3) L (vR (h.2.1 t 13) :: S) h K) : AW Γ l M d b pc L (vR t :: S) h K :=
  aw_getf0 (ci := 9) (C := RX11) (T := TX11) (N := 18) (k := 13) (q := (1, 13)) dg rfl (by decide) rfl (fun hown hts hnw => Or.inl (by rw [hM]; exact hts _ flX11_85)) inX11 rfl ho kk
theorem flX11_89 : Cond.fieldLink RX11 89 RX11 (TX11 14).2.1 (TX11 14).2.2.1 ∈ gw := tm2 115 (by decide +kernel) (by decide +kernel)
theorem gfX11_89 {Γ : Cfg} {l : Launch} {M : MT} {d b pc : Nat} {L S : List AV} {h : HP} {K : Ou → HP → Prop} {t : Int} (hM : M.1 = RX11) (dg : decode M.2.1 pc = .ok (.getfield 89, 3)) (ho : isO h t 9) (kk : AW Γ l M d b (pc + 3) L (vI (h.1 t 14) :: S) h K) : AW Γ l M d b pc L (vR t :: S) h K :=
  aw_getf0 (ci := 9) (C := RX11) (T := TX11) (N := 18) (k := 14) (q := (0, 14)) dg rfl (by decide) rfl (fun hown hts hnw => Or.inl (by rw [hM]; exact hts _ flX11_89)) inX11 rfl ho kk
theorem pfX11_89 {Γ : Cfg} {l : Launch} {M : MT} {d b pc : Nat} {L S : List AV} {h : HP} {K : Ou → HP → Prop} {t x : Int} (hM : M.1 = RX11) (dg : decode M.2.1 pc = .ok (.putfield 89, 3)) (ho : isO h t 9) (kk : AW Γ l M d b (pc + 3) L S (upd2 h.1 t 14 x, h.2) K) : AW Γ l M d b pc L (vI x :: vR t :: S) h K :=
  aw_putf0 (ci := 9) (C := RX11) (T := TX11) (N := 18) (k := 14) (q := (0, 14)) (h' := (upd2 h.1 t 14 x, h.2)) tyX11 dg rfl (by decide) rfl (fun hown hts hnw => Or.inl (by rw [hM]; exact hts _ flX11_89)) inX11 tyX11_ok nmX11 rfl rfl rfl rfl ho (fun t' q => entS_upd q) rfl (flv_upd (ci := 9) (k := 14) (q := (0, 14)) rfl (Or.inl rfl)) kk
theorem flX11_93 : Cond.fieldLink RX11 93 RX11 (TX11 15).2.1 (TX11 15).2.2.1 ∈ gw := tm2 116 (by decide +kernel) (by decide +kernel)
theorem gfX11_93 {Γ : Cfg} {l : Launch} {M : MT} {d b pc : Nat} {L S : List AV} {h : HP} {K : Ou → HP → Prop} {t : Int} (hM : M.1 = RX11) (dg : decode M.2.1 pc = .ok (.getfield 93, 3)) (ho : isO h t 9) (kk : AW Γ l M d b (pc + 3) L (vI (h.1 t 15) :: S) h K) : AW Γ l M d b pc L (vR t :: S) h K :=
  aw_getf0 (ci := 9) (C := RX11) (T := TX11) (N := 18) (k := 15) (q := (0, 15)) dg rfl (by decide) rfl (fun hown hts hnw => Or.inl (by rw [hM]; exact hts _ flX11_93)) inX11 rfl ho kk
theorem pfX11_93 {Γ : Cfg} {l : Launch} {M : MT} {d b pc : Nat} {L S : List AV} {h : HP} {K : Ou → HP → Prop} {t x : Int} (hM : M.1 = RX11) (dg : decode M.2.1 pc = .ok (.putfield 93, 3)) (ho : isO h t 9) (kk : AW Γ l M d b (pc + 3) L S (upd2 h.1 t 15 x, h.2) K) : AW Γ l M d b pc L (vI x :: vR t :: S) h K :=
  aw_putf0 (ci := 9) (C := RX11) (T := TX11) (N := 18) (k := 15) (q := (0, 15)) (h' := (upd2 h.1 t 15 x, h.2)) tyX11 dg rfl (by decide) rfl (fun hown hts hnw => Or.inl (by rw [hM]; exact hts _ flX11_93)) inX11 tyX11_ok nmX11 rfl rfl rfl rfl ho (fun t' q => entS_upd q) rfl (flv_upd (ci := 9) (k := 15) (q := (0, 15)) rfl (Or.inl rfl)) kk
theorem flX11_96 : Cond.fieldLink RX11 96 RX11 (TX11 16).2.1 (TX11 16).2.2.1 ∈ gw := tm2 117 (by decide +kernel) (by decide +kernel)
theorem gfX11_96 {Γ : Cfg} {l : Launch} {M : MT} {d b pc : Nat} {L S : List AV} {h : HP} {K : Ou → HP → Prop} {t : Int} (hM : M.1 = RX11) (dg : decode M.2.1 pc = .ok (.getfield 96, 3)) (ho : isO h t 9) (kk : AW Γ l M d b (pc + 3) L (vI (h.1 t 16) :: S) h K) : AW Γ l M d b pc L (vR t :: S) h K :=
  aw_getf0 (ci := 9) (C := RX11) (T := TX11) (N := 18) (k := 16) (q := (0, 16)) dg rfl (by decide) rfl (fun hown hts hnw => Or.inl (by rw [hM]; exact hts _ flX11_96)) inX11 rfl ho kk
theorem pfX11_96 {Γ : Cfg} {l : Launch} {M : MT} {d b pc : Nat} {L S : List AV} {h : HP} {K : Ou → HP → Prop} {t x : Int} (hM : M.1 = RX11) (dg : decode M.2.1 pc = .ok (.putfield 96, 3)) (ho : isO h t 9) (hx : narrow .boolean (.int (Int32.ofInt x)) = .int (Int32.ofInt x)) (hx2 : fits .boolean (.int (Int32.ofInt x)) = true) (kk : AW Γ l M d b (pc + 3) L S (upd2 h.1 t 16 x, h.2) K) : AW Γ l M d b pc L (vI x :: vR t :: S) h K :=
  aw_putf0 (ci := 9) (C := RX11) (T := TX11) (N := 18) (k := 16) (q := (0, 16)) (h' := (upd2 h.1 t 16 x, h.2)) tyX11 dg rfl (by decide) rfl (fun hown hts hnw => Or.inl (by rw [hM]; exact hts _ flX11_96)) inX11 tyX11_ok nmX11 rfl hx hx2 rfl ho (fun t' q => entS_upd q) rfl (flv_upd (ci := 9) (k := 16) (q := (0, 16)) rfl (Or.inl rfl)) kk
theorem flX11_100 : Cond.fieldLink RX11 100 RX11 (TX11 17).2.1 (TX11 17).2.2.1 ∈ gw := tm2 118 (by decide +kernel) (by decide +kernel)
theorem gfX11_100 {Γ : Cfg} {l : Launch} {M : MT} {d b pc : Nat} {L S : List AV} {h : HP} {K : Ou → HP → Prop} {t : Int} (hM : M.1 = RX11) (dg : decode M.2.1 pc = .ok (.getfield 100, 3)) (ho : isO h t 9) (kk : AW Γ l M d b (pc + 3) L (vI (h.1 t 17) :: S) h K) : AW Γ l M d b pc L (vR t :: S) h K :=
  aw_getf0 (ci := 9) (C := RX11) (T := TX11) (N := 18) (k := 17) (q := (0, 17)) dg rfl (by decide) rfl (fun hown hts hnw => Or.inl (by rw [hM]; exact hts _ flX11_100)) inX11 rfl ho kk
theorem pfX11_100 {Γ : Cfg} {l : Launch} {M : MT} {d b pc : Nat} {L S : List AV} {h : HP} {K : Ou → HP → Prop} {t x : Int} (hM : M.1 = RX11) (dg : decode M.2.1 pc = .ok (.putfield 100, 3)) (ho : isO h t 9) (kk : AW Γ l M d b (pc + 3) L S (upd2 h.1 t 17 x, h.2) K) : AW Γ l M d b pc L (vI x :: vR t :: S) h K :=
  aw_putf0 (ci := 9) (C := RX11) (T := TX11) (N := 18) (k := 17) (q := (0, 17)) (h' := (upd2 h.1 t 17 x, h.2)) tyX11 dg rfl (by decide) rfl (fun hown hts hnw => Or.inl (by rw [hM]; exact hts _ flX11_100)) inX11 tyX11_ok nmX11 rfl rfl rfl rfl ho (fun t' q => entS_upd q) rfl (flv_upd (ci := 9) (k := 17) (q := (0, 17)) rfl (Or.inl rfl)) kk
theorem flX11_103 : Cond.fieldLinkNest RX11 103 RX9 (TX9 1).2.1 (TX9 1).2.2.1 "HalfOaths" ∈ nw := tn1 47 (by decide +kernel) (by decide +kernel)
theorem gfX11_103 {Γ : Cfg} {l : Launch} {M : MT} {d b pc : Nat} {L S : List AV} {h : HP} {K : Ou → HP → Prop} {t : Int} (hM : M.1 = RX11) (dg : decode M.2.1 pc = .ok (.getfield 103, 3)) (ho : isO h t 7) (kk : AW Γ l M d b (pc + 3) L (vI (h.1 t 1) :: S) h K) : AW Γ l M d b pc L (vR t :: S) h K :=
  aw_getf0 (ci := 7) (C := RX9) (T := TX9) (N := 2) (k := 1) (q := (0, 1)) dg rfl (by decide) rfl (fun hown hts hnw => Or.inr ⟨"HalfOaths", by rw [hM]; exact va_Nw.use rfl (hnw _ flX11_103)⟩) inX9 rfl ho kk
theorem pfX11_103 {Γ : Cfg} {l : Launch} {M : MT} {d b pc : Nat} {L S : List AV} {h : HP} {K : Ou → HP → Prop} {t x : Int} (hM : M.1 = RX11) (dg : decode M.2.1 pc = .ok (.putfield 103, 3)) (ho : isO h t 7) (kk : AW Γ l M d b (pc + 3) L S (upd2 h.1 t 1 x, h.2) K) : AW Γ l M d b pc L (vI x :: vR t :: S) h K :=
  aw_putf0 (ci := 7) (C := RX9) (T := TX9) (N := 2) (k := 1) (q := (0, 1)) (h' := (upd2 h.1 t 1 x, h.2)) tyX9 dg rfl (by decide) rfl (fun hown hts hnw => Or.inr ⟨"HalfOaths", by rw [hM]; exact va_Nw.use rfl (hnw _ flX11_103)⟩) inX9 tyX9_ok nmX9 rfl rfl rfl rfl ho (fun t' q => entS_upd q) rfl (flv_upd (ci := 7) (k := 1) (q := (0, 1)) rfl (Or.inl rfl)) kk
theorem flX11_123 : Cond.fieldLinkNest RX11 123 RX10 (TX10 5).2.1 (TX10 5).2.2.1 "HalfOaths" ∈ nw := tn1 72 (by decide +kernel) (by decide +kernel)
theorem gfX11_123 {Γ : Cfg} {l : Launch} {M : MT} {d b pc : Nat} {L S : List AV} {h : HP} {K : Ou → HP → Prop} {t : Int} (hM : M.1 = RX11) (dg : decode M.2.1 pc = .ok (.getfield 123, 3)) (ho : isO h t 8) (kk : AW Γ l M d b (pc + 3) L (vI (h.1 t 5) :: S) h K) : AW Γ l M d b pc L (vR t :: S) h K :=
  aw_getf0 (ci := 8) (C := RX10) (T := TX10) (N := 7) (k := 5) (q := (0, 5)) dg rfl (by decide) rfl (fun hown hts hnw => Or.inr ⟨"HalfOaths", by rw [hM]; exact va_Nw.use rfl (hnw _ flX11_123)⟩) inX10 rfl ho kk
theorem flX11_133 : Cond.fieldLinkNest RX11 133 RX2 (TX2 9).2.1 (TX2 9).2.2.1 "HalfOaths" ∈ nw := tn1 133 (by decide +kernel) (by decide +kernel)
theorem gfX11_133 {Γ : Cfg} {l : Launch} {M : MT} {d b pc : Nat} {L S : List AV} {h : HP} {K : Ou → HP → Prop} {t : Int} (hM : M.1 = RX11) (dg : decode M.2.1 pc = .ok (.getfield 133, 3)) (ho : isO h t 2) (kk : AW Γ l M d b (pc + 3) L (vI (h.1 t 9) :: S) h K) : AW Γ l M d b pc L (vR t :: S) h K :=
  aw_getf0 (ci := 2) (C := RX2) (T := TX2) (N := 15) (k := 9) (q := (0, 9)) dg rfl (by decide) rfl (fun hown hts hnw => Or.inr ⟨"HalfOaths", by rw [hM]; exact va_Nw.use rfl (hnw _ flX11_133)⟩) inX2 rfl ho kk
theorem pfX11_133 {Γ : Cfg} {l : Launch} {M : MT} {d b pc : Nat} {L S : List AV} {h : HP} {K : Ou → HP → Prop} {t x : Int} (hM : M.1 = RX11) (dg : decode M.2.1 pc = .ok (.putfield 133, 3)) (ho : isO h t 2) (kk : AW Γ l M d b (pc + 3) L S (upd2 h.1 t 9 x, h.2) K) : AW Γ l M d b pc L (vI x :: vR t :: S) h K :=
  aw_putf0 (ci := 2) (C := RX2) (T := TX2) (N := 15) (k := 9) (q := (0, 9)) (h' := (upd2 h.1 t 9 x, h.2)) tyX2 dg rfl (by decide) rfl (fun hown hts hnw => Or.inr ⟨"HalfOaths", by rw [hM]; exact va_Nw.use rfl (hnw _ flX11_133)⟩) inX2 tyX2_ok nmX2 rfl rfl rfl rfl ho (fun t' q => entS_upd q) rfl (flv_upd (ci := 2) (k := 9) (q := (0, 9)) rfl (Or.inl rfl)) kk
theorem flX11_148 : Cond.fieldLinkNest RX11 148 RX4 (TX4 3).2.1 (TX4 3).2.2.1 "HalfOaths" ∈ nw := tn1 191 (by decide +kernel) (by decide +kernel)
theorem gfX11_148 {Γ : Cfg} {l : Launch} {M : MT} {d b pc : Nat} {L S : List AV} {h : HP} {K : Ou → HP → Prop} {t : Int} (hM : M.1 = RX11) (dg : decode M.2.1 pc = .ok (.getfield 148, 3)) (ho : isO h t 3) (kk : AW Γ l M d b (pc + 3) L (vI (h.1 t 3) :: S) h K) : AW Γ l M d b pc L (vR t :: S) h K :=
  aw_getf0 (ci := 3) (C := RX4) (T := TX4) (N := 8) (k := 3) (q := (0, 3)) dg rfl (by decide) rfl (fun hown hts hnw => Or.inr ⟨"HalfOaths", by rw [hM]; exact va_Nw.use rfl (hnw _ flX11_148)⟩) inX4 rfl ho kk
theorem flX11_151 : Cond.fieldLinkNest RX11 151 RX9 (TX9 0).2.1 (TX9 0).2.2.1 "HalfOaths" ∈ nw := tn1 45 (by decide +kernel) (by decide +kernel)
theorem gfX11_151 {Γ : Cfg} {l : Launch} {M : MT} {d b pc : Nat} {L S : List AV} {h : HP} {K : Ou → HP → Prop} {t : Int} (hM : M.1 = RX11) (dg : decode M.2.1 pc = .ok (.getfield 151, 3)) (ho : isO h t 7) (kk : AW Γ l M d b (pc + 3) L (vR (h.2.1 t 0) :: S) h K) : AW Γ l M d b pc L (vR t :: S) h K :=
  aw_getf0 (ci := 7) (C := RX9) (T := TX9) (N := 2) (k := 0) (q := (1, 0)) dg rfl (by decide) rfl (fun hown hts hnw => Or.inr ⟨"HalfOaths", by rw [hM]; exact va_Nw.use rfl (hnw _ flX11_151)⟩) inX9 rfl ho kk
theorem flX11_165 : Cond.fieldLinkNest RX11 165 RX2 (TX2 1).2.1 (TX2 1).2.2.1 "HalfOaths" ∈ nw := tn1 105 (by decide +kernel) (by decide +kernel)
theorem gfX11_165 {Γ : Cfg} {l : Launch} {M : MT} {d b pc : Nat} {L S : List AV} {h : HP} {K : Ou → HP → Prop} {t : Int} (hM : M.1 = RX11) (dg : decode M.2.1 pc = .ok (.getfield 165, 3)) (ho : isO h t 2) (kk : AW Γ l M d b (pc + 3) L (vR (h.2.1 t 1) :: S) h K) : AW Γ l M d b pc L (vR t :: S) h K :=
  aw_getf0 (ci := 2) (C := RX2) (T := TX2) (N := 15) (k := 1) (q := (1, 1)) dg rfl (by decide) rfl (fun hown hts hnw => Or.inr ⟨"HalfOaths", by rw [hM]; exact va_Nw.use rfl (hnw _ flX11_165)⟩) inX2 rfl ho kk
theorem flX11_172 : Cond.fieldLinkNest RX11 172 RX2 (TX2 2).2.1 (TX2 2).2.2.1 "HalfOaths" ∈ nw := tn1 109 (by decide +kernel) (by decide +kernel)
theorem gfX11_172 {Γ : Cfg} {l : Launch} {M : MT} {d b pc : Nat} {L S : List AV} {h : HP} {K : Ou → HP → Prop} {t : Int} (hM : M.1 = RX11) (dg : decode M.2.1 pc = .ok (.getfield 172, 3)) (ho : isO h t 2) (kk : AW Γ l M d b (pc + 3) L (vR (h.2.1 t 2) :: S) h K) : AW Γ l M d b pc L (vR t :: S) h K :=
  aw_getf0 (ci := 2) (C := RX2) (T := TX2) (N := 15) (k := 2) (q := (1, 2)) dg rfl (by decide) rfl (fun hown hts hnw => Or.inr ⟨"HalfOaths", by rw [hM]; exact va_Nw.use rfl (hnw _ flX11_172)⟩) inX2 rfl ho kk
theorem flX11_175 : Cond.fieldLinkNest RX11 175 RX2 (TX2 3).2.1 (TX2 3).2.2.1 "HalfOaths" ∈ nw := tn1 113 (by decide +kernel) (by decide +kernel)
theorem gfX11_175 {Γ : Cfg} {l : Launch} {M : MT} {d b pc : Nat} {L S : List AV} {h : HP} {K : Ou → HP → Prop} {t : Int} (hM : M.1 = RX11) (dg : decode M.2.1 pc = .ok (.getfield 175, 3)) (ho : isO h t 2) (kk : AW Γ l M d b (pc + 3) L (vR (h.2.1 t 3) :: S) h K) : AW Γ l M d b pc L (vR t :: S) h K :=
  aw_getf0 (ci := 2) (C := RX2) (T := TX2) (N := 15) (k := 3) (q := (1, 3)) dg rfl (by decide) rfl (fun hown hts hnw => Or.inr ⟨"HalfOaths", by rw [hM]; exact va_Nw.use rfl (hnw _ flX11_175)⟩) inX2 rfl ho kk
theorem flX11_178 : Cond.fieldLinkNest RX11 178 RX2 (TX2 4).2.1 (TX2 4).2.2.1 "HalfOaths" ∈ nw := tn1 116 (by decide +kernel) (by decide +kernel)
theorem gfX11_178 {Γ : Cfg} {l : Launch} {M : MT} {d b pc : Nat} {L S : List AV} {h : HP} {K : Ou → HP → Prop} {t : Int} (hM : M.1 = RX11) (dg : decode M.2.1 pc = .ok (.getfield 178, 3)) (ho : isO h t 2) (kk : AW Γ l M d b (pc + 3) L (vR (h.2.1 t 4) :: S) h K) : AW Γ l M d b pc L (vR t :: S) h K :=
  aw_getf0 (ci := 2) (C := RX2) (T := TX2) (N := 15) (k := 4) (q := (1, 4)) dg rfl (by decide) rfl (fun hown hts hnw => Or.inr ⟨"HalfOaths", by rw [hM]; exact va_Nw.use rfl (hnw _ flX11_178)⟩) inX2 rfl ho kk
theorem flX11_181 : Cond.fieldLinkNest RX11 181 RX2 (TX2 5).2.1 (TX2 5).2.2.1 "HalfOaths" ∈ nw := tn1 119 (by decide +kernel) (by decide +kernel)
theorem gfX11_181 {Γ : Cfg} {l : Launch} {M : MT} {d b pc : Nat} {L S : List AV} {h : HP} {K : Ou → HP → Prop} {t : Int} (hM : M.1 = RX11) (dg : decode M.2.1 pc = .ok (.getfield 181, 3)) (ho : isO h t 2) (kk : AW Γ l M d b (pc + 3) L (vR (h.2.1 t 5) :: S) h K) : AW Γ l M d b pc L (vR t :: S) h K :=
  aw_getf0 (ci := 2) (C := RX2) (T := TX2) (N := 15) (k := 5) (q := (1, 5)) dg rfl (by decide) rfl (fun hown hts hnw => Or.inr ⟨"HalfOaths", by rw [hM]; exact va_Nw.use rfl (hnw _ flX11_181)⟩) inX2 rfl ho kk
theorem flX11_225 : Cond.fieldLinkNest RX11 225 RX2 (TX2 6).2.1 (TX2 6).2.2.1 "HalfOaths" ∈ nw := tn1 124 (by decide +kernel) (by decide +kernel)
theorem gfX11_225 {Γ : Cfg} {l : Launch} {M : MT} {d b pc : Nat} {L S : List AV} {h : HP} {K : Ou → HP → Prop} {t : Int} (hM : M.1 = RX11) (dg : decode M.2.1 pc = .ok (.getfield 225, 3)) (ho : isO h t 2) (kk : AW Γ l M d b (pc + 3) L (vR (h.2.1 t 6) :: S) h K) : AW Γ l M d b pc L (vR t :: S) h K :=
  aw_getf0 (ci := 2) (C := RX2) (T := TX2) (N := 15) (k := 6) (q := (1, 6)) dg rfl (by decide) rfl (fun hown hts hnw => Or.inr ⟨"HalfOaths", by rw [hM]; exact va_Nw.use rfl (hnw _ flX11_225)⟩) inX2 rfl ho kk
theorem flX11_250 : Cond.fieldLinkNest RX11 250 RX7 (TX7 3).2.1 (TX7 3).2.2.1 "HalfOaths" ∈ nw := tn2 26 (by decide +kernel) (by decide +kernel)
theorem gfX11_250 {Γ : Cfg} {l : Launch} {M : MT} {d b pc : Nat} {L S : List AV} {h : HP} {K : Ou → HP → Prop} {t : Int} (hM : M.1 = RX11) (dg : decode M.2.1 pc = .ok (.getfield 250, 3)) (ho : isO h t 6) (kk : AW Γ l M d b (pc + 3) L (vR (h.2.1 t 3) :: S) h K) : AW Γ l M d b pc L (vR t :: S) h K :=
  aw_getf0 (ci := 6) (C := RX7) (T := TX7) (N := 4) (k := 3) (q := (1, 3)) dg rfl (by decide) rfl (fun hown hts hnw => Or.inr ⟨"HalfOaths", by rw [hM]; exact va_Nw.use rfl (hnw _ flX11_250)⟩) inX7 rfl ho kk
theorem flX11_253 : Cond.fieldLinkNest RX11 253 RX2 (TX2 8).2.1 (TX2 8).2.2.1 "HalfOaths" ∈ nw := tn1 131 (by decide +kernel) (by decide +kernel)
theorem gfX11_253 {Γ : Cfg} {l : Launch} {M : MT} {d b pc : Nat} {L S : List AV} {h : HP} {K : Ou → HP → Prop} {t : Int} (hM : M.1 = RX11) (dg : decode M.2.1 pc = .ok (.getfield 253, 3)) (ho : isO h t 2) (kk : AW Γ l M d b (pc + 3) L (vI (h.1 t 8) :: S) h K) : AW Γ l M d b pc L (vR t :: S) h K :=
  aw_getf0 (ci := 2) (C := RX2) (T := TX2) (N := 15) (k := 8) (q := (0, 8)) dg rfl (by decide) rfl (fun hown hts hnw => Or.inr ⟨"HalfOaths", by rw [hM]; exact va_Nw.use rfl (hnw _ flX11_253)⟩) inX2 rfl ho kk
theorem flX11_294 : Cond.fieldLinkNest RX11 294 RX2 (TX2 10).2.1 (TX2 10).2.2.1 "HalfOaths" ∈ nw := tn1 137 (by decide +kernel) (by decide +kernel)
theorem gfX11_294 {Γ : Cfg} {l : Launch} {M : MT} {d b pc : Nat} {L S : List AV} {h : HP} {K : Ou → HP → Prop} {t : Int} (hM : M.1 = RX11) (dg : decode M.2.1 pc = .ok (.getfield 294, 3)) (ho : isO h t 2) (kk : AW Γ l M d b (pc + 3) L (vI (h.1 t 10) :: S) h K) : AW Γ l M d b pc L (vR t :: S) h K :=
  aw_getf0 (ci := 2) (C := RX2) (T := TX2) (N := 15) (k := 10) (q := (0, 10)) dg rfl (by decide) rfl (fun hown hts hnw => Or.inr ⟨"HalfOaths", by rw [hM]; exact va_Nw.use rfl (hnw _ flX11_294)⟩) inX2 rfl ho kk
theorem pfX11_294 {Γ : Cfg} {l : Launch} {M : MT} {d b pc : Nat} {L S : List AV} {h : HP} {K : Ou → HP → Prop} {t x : Int} (hM : M.1 = RX11) (dg : decode M.2.1 pc = .ok (.putfield 294, 3)) (ho : isO h t 2) (kk : AW Γ l M d b (pc + 3) L S (upd2 h.1 t 10 x, h.2) K) : AW Γ l M d b pc L (vI x :: vR t :: S) h K :=
  aw_putf0 (ci := 2) (C := RX2) (T := TX2) (N := 15) (k := 10) (q := (0, 10)) (h' := (upd2 h.1 t 10 x, h.2)) tyX2 dg rfl (by decide) rfl (fun hown hts hnw => Or.inr ⟨"HalfOaths", by rw [hM]; exact va_Nw.use rfl (hnw _ flX11_294)⟩) inX2 tyX2_ok nmX2 rfl rfl rfl rfl ho (fun t' q => entS_upd q) rfl (flv_upd (ci := 2) (k := 10) (q := (0, 10)) rfl (Or.inl rfl)) kk
theorem flX11_311 : Cond.fieldLinkNest RX11 311 RX5 (TX5 8).2.1 (TX5 8).2.2.1 "HalfOaths" ∈ nw := tn2 63 (by decide +kernel) (by decide +kernel)
theorem gfX11_311 {Γ : Cfg} {l : Launch} {M : MT} {d b pc : Nat} {L S : List AV} {h : HP} {K : Ou → HP → Prop} {t : Int} (hM : M.1 = RX11) (dg : decode M.2.1 pc = .ok (.getfield 311, 3)) (ho : isO h t 4) (kk : AW Γ l M d b (pc + 3) L (vI (h.1 t 8) :: S) h K) : AW Γ l M d b pc L (vR t :: S) h K :=
  aw_getf0 (ci := 4) (C := RX5) (T := TX5) (N := 9) (k := 8) (q := (0, 8)) dg rfl (by decide) rfl (fun hown hts hnw => Or.inr ⟨"HalfOaths", by rw [hM]; exact va_Nw.use rfl (hnw _ flX11_311)⟩) inX5 rfl ho kk
theorem flX11_314 : Cond.fieldLinkNest RX11 314 RX5 (TX5 7).2.1 (TX5 7).2.2.1 "HalfOaths" ∈ nw := tn2 61 (by decide +kernel) (by decide +kernel)
theorem gfX11_314 {Γ : Cfg} {l : Launch} {M : MT} {d b pc : Nat} {L S : List AV} {h : HP} {K : Ou → HP → Prop} {t : Int} (hM : M.1 = RX11) (dg : decode M.2.1 pc = .ok (.getfield 314, 3)) (ho : isO h t 4) (kk : AW Γ l M d b (pc + 3) L (vI (h.1 t 7) :: S) h K) : AW Γ l M d b pc L (vR t :: S) h K :=
  aw_getf0 (ci := 4) (C := RX5) (T := TX5) (N := 9) (k := 7) (q := (0, 7)) dg rfl (by decide) rfl (fun hown hts hnw => Or.inr ⟨"HalfOaths", by rw [hM]; exact va_Nw.use rfl (hnw _ flX11_314)⟩) inX5 rfl ho kk
theorem flX11_317 : Cond.fieldLinkNest RX11 317 RX5 (TX5 5).2.1 (TX5 5).2.2.1 "HalfOaths" ∈ nw := tn2 58 (by decide +kernel) (by decide +kernel)
theorem gfX11_317 {Γ : Cfg} {l : Launch} {M : MT} {d b pc : Nat} {L S : List AV} {h : HP} {K : Ou → HP → Prop} {t : Int} (hM : M.1 = RX11) (dg : decode M.2.1 pc = .ok (.getfield 317, 3)) (ho : isO h t 4) (kk : AW Γ l M d b (pc + 3) L (vR (h.2.1 t 5) :: S) h K) : AW Γ l M d b pc L (vR t :: S) h K :=
  aw_getf0 (ci := 4) (C := RX5) (T := TX5) (N := 9) (k := 5) (q := (1, 5)) dg rfl (by decide) rfl (fun hown hts hnw => Or.inr ⟨"HalfOaths", by rw [hM]; exact va_Nw.use rfl (hnw _ flX11_317)⟩) inX5 rfl ho kk
theorem flX11_376 : Cond.fieldLinkNest RX11 376 RX6 (TX6 2).2.1 (TX6 2).2.2.1 "HalfOaths" ∈ nw := tn2 93 (by decide +kernel) (by decide +kernel)
theorem gfX11_376 {Γ : Cfg} {l : Launch} {M : MT} {d b pc : Nat} {L S : List AV} {h : HP} {K : Ou → HP → Prop} {t : Int} (hM : M.1 = RX11) (dg : decode M.2.1 pc = .ok (.getfield 376, 3)) (ho : isO h t 5) (kk : AW Γ l M d b (pc + 3) L (vI (h.1 t 2) :: S) h K) : AW Γ l M d b pc L (vR t :: S) h K :=
  aw_getf0 (ci := 5) (C := RX6) (T := TX6) (N := 3) (k := 2) (q := (0, 2)) dg rfl (by decide) rfl (fun hown hts hnw => Or.inr ⟨"HalfOaths", by rw [hM]; exact va_Nw.use rfl (hnw _ flX11_376)⟩) inX6 rfl ho kk
theorem flX11_379 : Cond.fieldLinkNest RX11 379 RX6 (TX6 1).2.1 (TX6 1).2.2.1 "HalfOaths" ∈ nw := tn2 91 (by decide +kernel) (by decide +kernel)
theorem gfX11_379 {Γ : Cfg} {l : Launch} {M : MT} {d b pc : Nat} {L S : List AV} {h : HP} {K : Ou → HP → Prop} {t : Int} (hM : M.1 = RX11) (dg : decode M.2.1 pc = .ok (.getfield 379, 3)) (ho : isO h t 5) (kk : AW Γ l M d b (pc + 3) L (vR (h.2.1 t 1) :: S) h K) : AW Γ l M d b pc L (vR t :: S) h K :=
  aw_getf0 (ci := 5) (C := RX6) (T := TX6) (N := 3) (k := 1) (q := (1, 1)) dg rfl (by decide) rfl (fun hown hts hnw => Or.inr ⟨"HalfOaths", by rw [hM]; exact va_Nw.use rfl (hnw _ flX11_379)⟩) inX6 rfl ho kk
theorem flX11_389 : Cond.fieldLinkNest RX11 389 RX2 (TX2 12).2.1 (TX2 12).2.2.1 "HalfOaths" ∈ nw := tn1 145 (by decide +kernel) (by decide +kernel)
theorem gfX11_389 {Γ : Cfg} {l : Launch} {M : MT} {d b pc : Nat} {L S : List AV} {h : HP} {K : Ou → HP → Prop} {t : Int} (hM : M.1 = RX11) (dg : decode M.2.1 pc = .ok (.getfield 389, 3)) (ho : isO h t 2) (kk : AW Γ l M d b (pc + 3) L (vI (h.1 t 12) :: S) h K) : AW Γ l M d b pc L (vR t :: S) h K :=
  aw_getf0 (ci := 2) (C := RX2) (T := TX2) (N := 15) (k := 12) (q := (0, 12)) dg rfl (by decide) rfl (fun hown hts hnw => Or.inr ⟨"HalfOaths", by rw [hM]; exact va_Nw.use rfl (hnw _ flX11_389)⟩) inX2 rfl ho kk
theorem flX11_392 : Cond.fieldLinkNest RX11 392 RX2 (TX2 13).2.1 (TX2 13).2.2.1 "HalfOaths" ∈ nw := tn1 147 (by decide +kernel) (by decide +kernel)
theorem gfX11_392 {Γ : Cfg} {l : Launch} {M : MT} {d b pc : Nat} {L S : List AV} {h : HP} {K : Ou → HP → Prop} {t : Int} (hM : M.1 = RX11) (dg : decode M.2.1 pc = .ok (.getfield 392, 3)) (ho : isO h t 2) (kk : AW Γ l M d b (pc + 3) L (vI (h.1 t 13) :: S) h K) : AW Γ l M d b pc L (vR t :: S) h K :=
  aw_getf0 (ci := 2) (C := RX2) (T := TX2) (N := 15) (k := 13) (q := (0, 13)) dg rfl (by decide) rfl (fun hown hts hnw => Or.inr ⟨"HalfOaths", by rw [hM]; exact va_Nw.use rfl (hnw _ flX11_392)⟩) inX2 rfl ho kk
theorem pfX11_392 {Γ : Cfg} {l : Launch} {M : MT} {d b pc : Nat} {L S : List AV} {h : HP} {K : Ou → HP → Prop} {t x : Int} (hM : M.1 = RX11) (dg : decode M.2.1 pc = .ok (.putfield 392, 3)) (ho : isO h t 2) (kk : AW Γ l M d b (pc + 3) L S (upd2 h.1 t 13 x, h.2) K) : AW Γ l M d b pc L (vI x :: vR t :: S) h K :=
  aw_putf0 (ci := 2) (C := RX2) (T := TX2) (N := 15) (k := 13) (q := (0, 13)) (h' := (upd2 h.1 t 13 x, h.2)) tyX2 dg rfl (by decide) rfl (fun hown hts hnw => Or.inr ⟨"HalfOaths", by rw [hM]; exact va_Nw.use rfl (hnw _ flX11_392)⟩) inX2 tyX2_ok nmX2 rfl rfl rfl rfl ho (fun t' q => entS_upd q) rfl (flv_upd (ci := 2) (k := 13) (q := (0, 13)) rfl (Or.inl rfl)) kk
theorem flX11_395 : Cond.fieldLinkNest RX11 395 RX2 (TX2 14).2.1 (TX2 14).2.2.1 "HalfOaths" ∈ nw := tn1 149 (by decide +kernel) (by decide +kernel)
theorem gfX11_395 {Γ : Cfg} {l : Launch} {M : MT} {d b pc : Nat} {L S : List AV} {h : HP} {K : Ou → HP → Prop} {t : Int} (hM : M.1 = RX11) (dg : decode M.2.1 pc = .ok (.getfield 395, 3)) (ho : isO h t 2) (kk : AW Γ l M d b (pc + 3) L (vI (h.1 t 14) :: S) h K) : AW Γ l M d b pc L (vR t :: S) h K :=
  aw_getf0 (ci := 2) (C := RX2) (T := TX2) (N := 15) (k := 14) (q := (0, 14)) dg rfl (by decide) rfl (fun hown hts hnw => Or.inr ⟨"HalfOaths", by rw [hM]; exact va_Nw.use rfl (hnw _ flX11_395)⟩) inX2 rfl ho kk
theorem flX11_398 : Cond.fieldLinkNest RX11 398 RX2 (TX2 7).2.1 (TX2 7).2.2.1 "HalfOaths" ∈ nw := tn1 126 (by decide +kernel) (by decide +kernel)
theorem gfX11_398 {Γ : Cfg} {l : Launch} {M : MT} {d b pc : Nat} {L S : List AV} {h : HP} {K : Ou → HP → Prop} {t : Int} (hM : M.1 = RX11) (dg : decode M.2.1 pc = .ok (.getfield 398, 3)) (ho : isO h t 2) (kk : AW Γ l M d b (pc + 3) L (vR (h.2.1 t 7) :: S) h K) : AW Γ l M d b pc L (vR t :: S) h K :=
  aw_getf0 (ci := 2) (C := RX2) (T := TX2) (N := 15) (k := 7) (q := (1, 7)) dg rfl (by decide) rfl (fun hown hts hnw => Or.inr ⟨"HalfOaths", by rw [hM]; exact va_Nw.use rfl (hnw _ flX11_398)⟩) inX2 rfl ho kk
theorem flX11_403 : Cond.fieldLinkNest RX11 403 RX4 (TX4 4).2.1 (TX4 4).2.2.1 "HalfOaths" ∈ nw := tn1 193 (by decide +kernel) (by decide +kernel)
theorem gfX11_403 {Γ : Cfg} {l : Launch} {M : MT} {d b pc : Nat} {L S : List AV} {h : HP} {K : Ou → HP → Prop} {t : Int} (hM : M.1 = RX11) (dg : decode M.2.1 pc = .ok (.getfield 403, 3)) (ho : isO h t 3) (kk : AW Γ l M d b (pc + 3) L (vI (h.1 t 4) :: S) h K) : AW Γ l M d b pc L (vR t :: S) h K :=
  aw_getf0 (ci := 3) (C := RX4) (T := TX4) (N := 8) (k := 4) (q := (0, 4)) dg rfl (by decide) rfl (fun hown hts hnw => Or.inr ⟨"HalfOaths", by rw [hM]; exact va_Nw.use rfl (hnw _ flX11_403)⟩) inX4 rfl ho kk
theorem flX11_405 : Cond.fieldLinkNest RX11 405 RX2 (TX2 11).2.1 (TX2 11).2.2.1 "HalfOaths" ∈ nw := tn1 141 (by decide +kernel) (by decide +kernel)
theorem gfX11_405 {Γ : Cfg} {l : Launch} {M : MT} {d b pc : Nat} {L S : List AV} {h : HP} {K : Ou → HP → Prop} {t : Int} (hM : M.1 = RX11) (dg : decode M.2.1 pc = .ok (.getfield 405, 3)) (ho : isO h t 2) (kk : AW Γ l M d b (pc + 3) L (vI (h.1 t 11) :: S) h K) : AW Γ l M d b pc L (vR t :: S) h K :=
  aw_getf0 (ci := 2) (C := RX2) (T := TX2) (N := 15) (k := 11) (q := (0, 11)) dg rfl (by decide) rfl (fun hown hts hnw => Or.inr ⟨"HalfOaths", by rw [hM]; exact va_Nw.use rfl (hnw _ flX11_405)⟩) inX2 rfl ho kk
theorem flX0_9 : Cond.fieldLink RX0 9 RX0 (TX0 2).2.1 (TX0 2).2.2.1 ∈ gw := tm1 232 (by decide +kernel) (by decide +kernel)
theorem gfX0_9 {Γ : Cfg} {l : Launch} {M : MT} {d b pc : Nat} {L S : List AV} {h : HP} {K : Ou → HP → Prop} {t : Int} (hM : M.1 = RX0) (dg : decode M.2.1 pc = .ok (.getfield 9, 3)) (ho : isO h t 0) (kk : AW Γ l M d b (pc + 3) L (vI (h.1 t 2) :: S) h K) : AW Γ l M d b pc L (vR t :: S) h K :=
  aw_getf0 (ci := 0) (C := RX0) (T := TX0) (N := 8) (k := 2) (q := (0, 2)) dg rfl (by decide) rfl (fun hown hts hnw => Or.inl (by rw [hM]; exact hts _ flX0_9)) inX0 rfl ho kk
theorem pfX0_9 {Γ : Cfg} {l : Launch} {M : MT} {d b pc : Nat} {L S : List AV} {h : HP} {K : Ou → HP → Prop} {t x : Int} (hM : M.1 = RX0) (dg : decode M.2.1 pc = .ok (.putfield 9, 3)) (ho : isO h t 0) (kk : AW Γ l M d b (pc + 3) L S (upd2 h.1 t 2 x, h.2) K) : AW Γ l M d b pc L (vI x :: vR t :: S) h K :=
  aw_putf0 (ci := 0) (C := RX0) (T := TX0) (N := 8) (k := 2) (q := (0, 2)) (h' := (upd2 h.1 t 2 x, h.2)) tyX0 dg rfl (by decide) rfl (fun hown hts hnw => Or.inl (by rw [hM]; exact hts _ flX0_9)) inX0 tyX0_ok nmX0 rfl rfl rfl rfl ho (fun t' q => entS_upd q) rfl (flv_upd (ci := 0) (k := 2) (q := (0, 2)) rfl (Or.inl rfl)) kk
theorem flX0_15 : Cond.fieldLink RX0 15 RX0 (TX0 3).2.1 (TX0 3).2.2.1 ∈ gw := tm1 234 (by decide +kernel) (by decide +kernel)
theorem gfX0_15 {Γ : Cfg} {l : Launch} {M : MT} {d b pc : Nat} {L S : List AV} {h : HP} {K : Ou → HP → Prop} {t : Int} (hM : M.1 = RX0) (dg : decode M.2.1 pc = .ok (.getfield 15, 3)) (ho : isO h t 0) (kk : AW Γ l M d b (pc + 3) L (vI (h.1 t 3) :: S) h K) : AW Γ l M d b pc L (vR t :: S) h K :=
  aw_getf0 (ci := 0) (C := RX0) (T := TX0) (N := 8) (k := 3) (q := (0, 3)) dg rfl (by decide) rfl (fun hown hts hnw => Or.inl (by rw [hM]; exact hts _ flX0_15)) inX0 rfl ho kk
theorem pfX0_15 {Γ : Cfg} {l : Launch} {M : MT} {d b pc : Nat} {L S : List AV} {h : HP} {K : Ou → HP → Prop} {t x : Int} (hM : M.1 = RX0) (dg : decode M.2.1 pc = .ok (.putfield 15, 3)) (ho : isO h t 0) (kk : AW Γ l M d b (pc + 3) L S (upd2 h.1 t 3 x, h.2) K) : AW Γ l M d b pc L (vI x :: vR t :: S) h K :=
  aw_putf0 (ci := 0) (C := RX0) (T := TX0) (N := 8) (k := 3) (q := (0, 3)) (h' := (upd2 h.1 t 3 x, h.2)) tyX0 dg rfl (by decide) rfl (fun hown hts hnw => Or.inl (by rw [hM]; exact hts _ flX0_15)) inX0 tyX0_ok nmX0 rfl rfl rfl rfl ho (fun t' q => entS_upd q) rfl (flv_upd (ci := 0) (k := 3) (q := (0, 3)) rfl (Or.inl rfl)) kk
theorem flX0_18 : Cond.fieldLink RX0 18 RX0 (TX0 4).2.1 (TX0 4).2.2.1 ∈ gw := tm1 236 (by decide +kernel) (by decide +kernel)
theorem gfX0_18 {Γ : Cfg} {l : Launch} {M : MT} {d b pc : Nat} {L S : List AV} {h : HP} {K : Ou → HP → Prop} {t : Int} (hM : M.1 = RX0) (dg : decode M.2.1 pc = .ok (.getfield 18, 3)) (ho : isO h t 0) (kk : AW Γ l M d b (pc + 3) L (vI (h.1 t 4) :: S) h K) : AW Γ l M d b pc L (vR t :: S) h K :=
  aw_getf0 (ci := 0) (C := RX0) (T := TX0) (N := 8) (k := 4) (q := (0, 4)) dg rfl (by decide) rfl (fun hown hts hnw => Or.inl (by rw [hM]; exact hts _ flX0_18)) inX0 rfl ho kk
theorem pfX0_18 {Γ : Cfg} {l : Launch} {M : MT} {d b pc : Nat} {L S : List AV} {h : HP} {K : Ou → HP → Prop} {t x : Int} (hM : M.1 = RX0) (dg : decode M.2.1 pc = .ok (.putfield 18, 3)) (ho : isO h t 0) (kk : AW Γ l M d b (pc + 3) L S (upd2 h.1 t 4 x, h.2) K) : AW Γ l M d b pc L (vI x :: vR t :: S) h K :=
  aw_putf0 (ci := 0) (C := RX0) (T := TX0) (N := 8) (k := 4) (q := (0, 4)) (h' := (upd2 h.1 t 4 x, h.2)) tyX0 dg rfl (by decide) rfl (fun hown hts hnw => Or.inl (by rw [hM]; exact hts _ flX0_18)) inX0 tyX0_ok nmX0 rfl rfl rfl rfl ho (fun t' q => entS_upd q) rfl (flv_upd (ci := 0) (k := 4) (q := (0, 4)) rfl (Or.inl rfl)) kk
theorem flX0_21 : Cond.fieldLink RX0 21 RX0 (TX0 5).2.1 (TX0 5).2.2.1 ∈ gw := tm1 238 (by decide +kernel) (by decide +kernel)
theorem gfX0_21 {Γ : Cfg} {l : Launch} {M : MT} {d b pc : Nat} {L S : List AV} {h : HP} {K : Ou → HP → Prop} {t : Int} (hM : M.1 = RX0) (dg : decode M.2.1 pc = .ok (.getfield 21, 3)) (ho : isO h t 0) (kk : AW Γ l M d b (pc + 3) L (vI (h.1 t 5) :: S) h K) : AW Γ l M d b pc L (vR t :: S) h K :=
  aw_getf0 (ci := 0) (C := RX0) (T := TX0) (N := 8) (k := 5) (q := (0, 5)) dg rfl (by decide) rfl (fun hown hts hnw => Or.inl (by rw [hM]; exact hts _ flX0_21)) inX0 rfl ho kk
theorem pfX0_21 {Γ : Cfg} {l : Launch} {M : MT} {d b pc : Nat} {L S : List AV} {h : HP} {K : Ou → HP → Prop} {t x : Int} (hM : M.1 = RX0) (dg : decode M.2.1 pc = .ok (.putfield 21, 3)) (ho : isO h t 0) (kk : AW Γ l M d b (pc + 3) L S (upd2 h.1 t 5 x, h.2) K) : AW Γ l M d b pc L (vI x :: vR t :: S) h K :=
  aw_putf0 (ci := 0) (C := RX0) (T := TX0) (N := 8) (k := 5) (q := (0, 5)) (h' := (upd2 h.1 t 5 x, h.2)) tyX0 dg rfl (by decide) rfl (fun hown hts hnw => Or.inl (by rw [hM]; exact hts _ flX0_21)) inX0 tyX0_ok nmX0 rfl rfl rfl rfl ho (fun t' q => entS_upd q) rfl (flv_upd (ci := 0) (k := 5) (q := (0, 5)) rfl (Or.inl rfl)) kk
theorem flX0_24 : Cond.fieldLink RX0 24 RX0 (TX0 6).2.1 (TX0 6).2.2.1 ∈ gw := tm2 0 (by decide +kernel) (by decide +kernel)
theorem gfX0_24 {Γ : Cfg} {l : Launch} {M : MT} {d b pc : Nat} {L S : List AV} {h : HP} {K : Ou → HP → Prop} {t : Int} (hM : M.1 = RX0) (dg : decode M.2.1 pc = .ok (.getfield 24, 3)) (ho : isO h t 0) (kk : AW Γ l M d b (pc + 3) L (vI (h.1 t 6) :: S) h K) : AW Γ l M d b pc L (vR t :: S) h K :=
  aw_getf0 (ci := 0) (C := RX0) (T := TX0) (N := 8) (k := 6) (q := (0, 6)) dg rfl (by decide) rfl (fun hown hts hnw => Or.inl (by rw [hM]; exact hts _ flX0_24)) inX0 rfl ho kk
theorem pfX0_24 {Γ : Cfg} {l : Launch} {M : MT} {d b pc : Nat} {L S : List AV} {h : HP} {K : Ou → HP → Prop} {t x : Int} (hM : M.1 = RX0) (dg : decode M.2.1 pc = .ok (.putfield 24, 3)) (ho : isO h t 0) (kk : AW Γ l M d b (pc + 3) L S (upd2 h.1 t 6 x, h.2) K) : AW Γ l M d b pc L (vI x :: vR t :: S) h K :=
  aw_putf0 (ci := 0) (C := RX0) (T := TX0) (N := 8) (k := 6) (q := (0, 6)) (h' := (upd2 h.1 t 6 x, h.2)) tyX0 dg rfl (by decide) rfl (fun hown hts hnw => Or.inl (by rw [hM]; exact hts _ flX0_24)) inX0 tyX0_ok nmX0 rfl rfl rfl rfl ho (fun t' q => entS_upd q) rfl (flv_upd (ci := 0) (k := 6) (q := (0, 6)) rfl (Or.inl rfl)) kk
theorem flX0_27 : Cond.fieldLink RX0 27 RX0 (TX0 7).2.1 (TX0 7).2.2.1 ∈ gw := tm2 2 (by decide +kernel) (by decide +kernel)
theorem gfX0_27 {Γ : Cfg} {l : Launch} {M : MT} {d b pc : Nat} {L S : List AV} {h : HP} {K : Ou → HP → Prop} {t : Int} (hM : M.1 = RX0) (dg : decode M.2.1 pc = .ok (.getfield 27, 3)) (ho : isO h t 0) (kk : AW Γ l M d b (pc + 3) L (vI (h.1 t 7) :: S) h K) : AW Γ l M d b pc L (vR t :: S) h K :=
  aw_getf0 (ci := 0) (C := RX0) (T := TX0) (N := 8) (k := 7) (q := (0, 7)) dg rfl (by decide) rfl (fun hown hts hnw => Or.inl (by rw [hM]; exact hts _ flX0_27)) inX0 rfl ho kk
theorem pfX0_27 {Γ : Cfg} {l : Launch} {M : MT} {d b pc : Nat} {L S : List AV} {h : HP} {K : Ou → HP → Prop} {t x : Int} (hM : M.1 = RX0) (dg : decode M.2.1 pc = .ok (.putfield 27, 3)) (ho : isO h t 0) (kk : AW Γ l M d b (pc + 3) L S (upd2 h.1 t 7 x, h.2) K) : AW Γ l M d b pc L (vI x :: vR t :: S) h K :=
  aw_putf0 (ci := 0) (C := RX0) (T := TX0) (N := 8) (k := 7) (q := (0, 7)) (h' := (upd2 h.1 t 7 x, h.2)) tyX0 dg rfl (by decide) rfl (fun hown hts hnw => Or.inl (by rw [hM]; exact hts _ flX0_27)) inX0 tyX0_ok nmX0 rfl rfl rfl rfl ho (fun t' q => entS_upd q) rfl (flv_upd (ci := 0) (k := 7) (q := (0, 7)) rfl (Or.inl rfl)) kk
theorem flX1_9 : Cond.fieldLink RX1 9 RX1 (TX1 0).2.1 (TX1 0).2.2.1 ∈ gw := tm2 42 (by decide +kernel) (by decide +kernel)
theorem gfX1_9 {Γ : Cfg} {l : Launch} {M : MT} {d b pc : Nat} {L S : List AV} {h : HP} {K : Ou → HP → Prop} {t : Int} (hM : M.1 = RX1) (dg : decode M.2.1 pc = .ok (.getfield 9, 3)) (ho : isO h t 1) (kk : AW Γ l M d b (pc + 3) L (vR (h.2.1 t 0) :: S) h K) : AW Γ l M d b pc L (vR t :: S) h K :=
  aw_getf0 (ci := 1) (C := RX1) (T := TX1) (N := 1) (k := 0) (q := (1, 0)) dg rfl (by decide) rfl (fun hown hts hnw => Or.inl (by rw [hM]; exact hts _ flX1_9)) inX1 rfl ho kk
theorem flX1_15 : Cond.fieldLinkNest RX1 15 RX2 (TX2 8).2.1 (TX2 8).2.2.1 "HalfOaths" ∈ nw := tn1 128 (by decide +kernel) (by decide +kernel)
theorem gfX1_15 {Γ : Cfg} {l : Launch} {M : MT} {d b pc : Nat} {L S : List AV} {h : HP} {K : Ou → HP → Prop} {t : Int} (hM : M.1 = RX1) (dg : decode M.2.1 pc = .ok (.getfield 15, 3)) (ho : isO h t 2) (kk : AW Γ l M d b (pc + 3) L (vI (h.1 t 8) :: S) h K) : AW Γ l M d b pc L (vR t :: S) h K :=
  aw_getf0 (ci := 2) (C := RX2) (T := TX2) (N := 15) (k := 8) (q := (0, 8)) dg rfl (by decide) rfl (fun hown hts hnw => Or.inr ⟨"HalfOaths", by rw [hM]; exact va_Nw.use rfl (hnw _ flX1_15)⟩) inX2 rfl ho kk
theorem flX1_21 : Cond.fieldLinkNest RX1 21 RX2 (TX2 4).2.1 (TX2 4).2.2.1 "HalfOaths" ∈ nw := tn1 115 (by decide +kernel) (by decide +kernel)
theorem gfX1_21 {Γ : Cfg} {l : Launch} {M : MT} {d b pc : Nat} {L S : List AV} {h : HP} {K : Ou → HP → Prop} {t : Int} (hM : M.1 = RX1) (dg : decode M.2.1 pc = .ok (.getfield 21, 3)) (ho : isO h t 2) (kk : AW Γ l M d b (pc + 3) L (vR (h.2.1 t 4) :: S) h K) : AW Γ l M d b pc L (vR t :: S) h K :=
  aw_getf0 (ci := 2) (C := RX2) (T := TX2) (N := 15) (k := 4) (q := (1, 4)) dg rfl (by decide) rfl (fun hown hts hnw => Or.inr ⟨"HalfOaths", by rw [hM]; exact va_Nw.use rfl (hnw _ flX1_21)⟩) inX2 rfl ho kk
theorem flX1_33 : Cond.fieldLinkNest RX1 33 RX2 (TX2 11).2.1 (TX2 11).2.2.1 "HalfOaths" ∈ nw := tn1 139 (by decide +kernel) (by decide +kernel)
theorem gfX1_33 {Γ : Cfg} {l : Launch} {M : MT} {d b pc : Nat} {L S : List AV} {h : HP} {K : Ou → HP → Prop} {t : Int} (hM : M.1 = RX1) (dg : decode M.2.1 pc = .ok (.getfield 33, 3)) (ho : isO h t 2) (kk : AW Γ l M d b (pc + 3) L (vI (h.1 t 11) :: S) h K) : AW Γ l M d b pc L (vR t :: S) h K :=
  aw_getf0 (ci := 2) (C := RX2) (T := TX2) (N := 15) (k := 11) (q := (0, 11)) dg rfl (by decide) rfl (fun hown hts hnw => Or.inr ⟨"HalfOaths", by rw [hM]; exact va_Nw.use rfl (hnw _ flX1_33)⟩) inX2 rfl ho kk
theorem pfX1_33 {Γ : Cfg} {l : Launch} {M : MT} {d b pc : Nat} {L S : List AV} {h : HP} {K : Ou → HP → Prop} {t x : Int} (hM : M.1 = RX1) (dg : decode M.2.1 pc = .ok (.putfield 33, 3)) (ho : isO h t 2) (kk : AW Γ l M d b (pc + 3) L S (upd2 h.1 t 11 x, h.2) K) : AW Γ l M d b pc L (vI x :: vR t :: S) h K :=
  aw_putf0 (ci := 2) (C := RX2) (T := TX2) (N := 15) (k := 11) (q := (0, 11)) (h' := (upd2 h.1 t 11 x, h.2)) tyX2 dg rfl (by decide) rfl (fun hown hts hnw => Or.inr ⟨"HalfOaths", by rw [hM]; exact va_Nw.use rfl (hnw _ flX1_33)⟩) inX2 tyX2_ok nmX2 rfl rfl rfl rfl ho (fun t' q => entS_upd q) rfl (flv_upd (ci := 2) (k := 11) (q := (0, 11)) rfl (Or.inl rfl)) kk
theorem flX1_46 : Cond.fieldLinkNest RX1 46 RX2 (TX2 10).2.1 (TX2 10).2.2.1 "HalfOaths" ∈ nw := tn1 135 (by decide +kernel) (by decide +kernel)
theorem gfX1_46 {Γ : Cfg} {l : Launch} {M : MT} {d b pc : Nat} {L S : List AV} {h : HP} {K : Ou → HP → Prop} {t : Int} (hM : M.1 = RX1) (dg : decode M.2.1 pc = .ok (.getfield 46, 3)) (ho : isO h t 2) (kk : AW Γ l M d b (pc + 3) L (vI (h.1 t 10) :: S) h K) : AW Γ l M d b pc L (vR t :: S) h K :=
  aw_getf0 (ci := 2) (C := RX2) (T := TX2) (N := 15) (k := 10) (q := (0, 10)) dg rfl (by decide) rfl (fun hown hts hnw => Or.inr ⟨"HalfOaths", by rw [hM]; exact va_Nw.use rfl (hnw _ flX1_46)⟩) inX2 rfl ho kk
theorem flX1_49 : Cond.fieldLinkNest RX1 49 RX2 (TX2 3).2.1 (TX2 3).2.2.1 "HalfOaths" ∈ nw := tn1 111 (by decide +kernel) (by decide +kernel)
theorem gfX1_49 {Γ : Cfg} {l : Launch} {M : MT} {d b pc : Nat} {L S : List AV} {h : HP} {K : Ou → HP → Prop} {t : Int} (hM : M.1 = RX1) (dg : decode M.2.1 pc = .ok (.getfield 49, 3)) (ho : isO h t 2) (kk : AW Γ l M d b (pc + 3) L (vR (h.2.1 t 3) :: S) h K) : AW Γ l M d b pc L (vR t :: S) h K :=
  aw_getf0 (ci := 2) (C := RX2) (T := TX2) (N := 15) (k := 3) (q := (1, 3)) dg rfl (by decide) rfl (fun hown hts hnw => Or.inr ⟨"HalfOaths", by rw [hM]; exact va_Nw.use rfl (hnw _ flX1_49)⟩) inX2 rfl ho kk
theorem flX1_56 : Cond.fieldLinkNest RX1 56 RX2 (TX2 5).2.1 (TX2 5).2.2.1 "HalfOaths" ∈ nw := tn1 118 (by decide +kernel) (by decide +kernel)
theorem gfX1_56 {Γ : Cfg} {l : Launch} {M : MT} {d b pc : Nat} {L S : List AV} {h : HP} {K : Ou → HP → Prop} {t : Int} (hM : M.1 = RX1) (dg : decode M.2.1 pc = .ok (.getfield 56, 3)) (ho : isO h t 2) (kk : AW Γ l M d b (pc + 3) L (vR (h.2.1 t 5) :: S) h K) : AW Γ l M d b pc L (vR t :: S) h K :=
  aw_getf0 (ci := 2) (C := RX2) (T := TX2) (N := 15) (k := 5) (q := (1, 5)) dg rfl (by decide) rfl (fun hown hts hnw => Or.inr ⟨"HalfOaths", by rw [hM]; exact va_Nw.use rfl (hnw _ flX1_56)⟩) inX2 rfl ho kk
theorem flX1_59 : Cond.fieldLinkNest RX1 59 RX2 (TX2 2).2.1 (TX2 2).2.2.1 "HalfOaths" ∈ nw := tn1 107 (by decide +kernel) (by decide +kernel)
theorem gfX1_59 {Γ : Cfg} {l : Launch} {M : MT} {d b pc : Nat} {L S : List AV} {h : HP} {K : Ou → HP → Prop} {t : Int} (hM : M.1 = RX1) (dg : decode M.2.1 pc = .ok (.getfield 59, 3)) (ho : isO h t 2) (kk : AW Γ l M d b (pc + 3) L (vR (h.2.1 t 2) :: S) h K) : AW Γ l M d b pc L (vR t :: S) h K :=
  aw_getf0 (ci := 2) (C := RX2) (T := TX2) (N := 15) (k := 2) (q := (1, 2)) dg rfl (by decide) rfl (fun hown hts hnw => Or.inr ⟨"HalfOaths", by rw [hM]; exact va_Nw.use rfl (hnw _ flX1_59)⟩) inX2 rfl ho kk
theorem flX1_62 : Cond.fieldLinkNest RX1 62 RX2 (TX2 1).2.1 (TX2 1).2.2.1 "HalfOaths" ∈ nw := tn1 103 (by decide +kernel) (by decide +kernel)
theorem gfX1_62 {Γ : Cfg} {l : Launch} {M : MT} {d b pc : Nat} {L S : List AV} {h : HP} {K : Ou → HP → Prop} {t : Int} (hM : M.1 = RX1) (dg : decode M.2.1 pc = .ok (.getfield 62, 3)) (ho : isO h t 2) (kk : AW Γ l M d b (pc + 3) L (vR (h.2.1 t 1) :: S) h K) : AW Γ l M d b pc L (vR t :: S) h K :=
  aw_getf0 (ci := 2) (C := RX2) (T := TX2) (N := 15) (k := 1) (q := (1, 1)) dg rfl (by decide) rfl (fun hown hts hnw => Or.inr ⟨"HalfOaths", by rw [hM]; exact va_Nw.use rfl (hnw _ flX1_62)⟩) inX2 rfl ho kk
theorem flX1_73 : Cond.fieldLinkNest RX1 73 RX2 (TX2 12).2.1 (TX2 12).2.2.1 "HalfOaths" ∈ nw := tn1 143 (by decide +kernel) (by decide +kernel)
theorem gfX1_73 {Γ : Cfg} {l : Launch} {M : MT} {d b pc : Nat} {L S : List AV} {h : HP} {K : Ou → HP → Prop} {t : Int} (hM : M.1 = RX1) (dg : decode M.2.1 pc = .ok (.getfield 73, 3)) (ho : isO h t 2) (kk : AW Γ l M d b (pc + 3) L (vI (h.1 t 12) :: S) h K) : AW Γ l M d b pc L (vR t :: S) h K :=
  aw_getf0 (ci := 2) (C := RX2) (T := TX2) (N := 15) (k := 12) (q := (0, 12)) dg rfl (by decide) rfl (fun hown hts hnw => Or.inr ⟨"HalfOaths", by rw [hM]; exact va_Nw.use rfl (hnw _ flX1_73)⟩) inX2 rfl ho kk
theorem pfX1_73 {Γ : Cfg} {l : Launch} {M : MT} {d b pc : Nat} {L S : List AV} {h : HP} {K : Ou → HP → Prop} {t x : Int} (hM : M.1 = RX1) (dg : decode M.2.1 pc = .ok (.putfield 73, 3)) (ho : isO h t 2) (kk : AW Γ l M d b (pc + 3) L S (upd2 h.1 t 12 x, h.2) K) : AW Γ l M d b pc L (vI x :: vR t :: S) h K :=
  aw_putf0 (ci := 2) (C := RX2) (T := TX2) (N := 15) (k := 12) (q := (0, 12)) (h' := (upd2 h.1 t 12 x, h.2)) tyX2 dg rfl (by decide) rfl (fun hown hts hnw => Or.inr ⟨"HalfOaths", by rw [hM]; exact va_Nw.use rfl (hnw _ flX1_73)⟩) inX2 tyX2_ok nmX2 rfl rfl rfl rfl ho (fun t' q => entS_upd q) rfl (flv_upd (ci := 2) (k := 12) (q := (0, 12)) rfl (Or.inl rfl)) kk
theorem flX1_76 : Cond.fieldLinkNest RX1 76 RX7 (TX7 3).2.1 (TX7 3).2.2.1 "HalfOaths" ∈ nw := tn2 25 (by decide +kernel) (by decide +kernel)
theorem gfX1_76 {Γ : Cfg} {l : Launch} {M : MT} {d b pc : Nat} {L S : List AV} {h : HP} {K : Ou → HP → Prop} {t : Int} (hM : M.1 = RX1) (dg : decode M.2.1 pc = .ok (.getfield 76, 3)) (ho : isO h t 6) (kk : AW Γ l M d b (pc + 3) L (vR (h.2.1 t 3) :: S) h K) : AW Γ l M d b pc L (vR t :: S) h K :=
  aw_getf0 (ci := 6) (C := RX7) (T := TX7) (N := 4) (k := 3) (q := (1, 3)) dg rfl (by decide) rfl (fun hown hts hnw => Or.inr ⟨"HalfOaths", by rw [hM]; exact va_Nw.use rfl (hnw _ flX1_76)⟩) inX7 rfl ho kk
theorem flX2_9 : Cond.fieldLink RX2 9 RX2 (TX2 0).2.1 (TX2 0).2.2.1 ∈ gw := tm1 97 (by decide +kernel) (by decide +kernel)
theorem gfX2_9 {Γ : Cfg} {l : Launch} {M : MT} {d b pc : Nat} {L S : List AV} {h : HP} {K : Ou → HP → Prop} {t : Int} (hM : M.1 = RX2) (dg : decode M.2.1 pc = .ok (.getfield 9, 3)) (ho : isO h t 2) (kk : AW Γ l M d b (pc + 3) L (vR (h.2.1 t 0) :: S) h K) : AW Γ l M d b pc L (vR t :: S) h K :=
  aw_getf0 (ci := 2) (C := RX2) (T := TX2) (N := 15) (k := 0) (q := (1, 0)) dg rfl (by decide) rfl (fun hown hts hnw => Or.inl (by rw [hM]; exact hts _ flX2_9)) inX2 rfl ho kk
theorem flX2_15 : Cond.fieldLink RX2 15 RX2 (TX2 1).2.1 (TX2 1).2.2.1 ∈ gw := tm1 100 (by decide +kernel) (by decide +kernel)
theorem gfX2_15 {Γ : Cfg} {l : Launch} {M : MT} {d b pc : Nat} {L S : List AV} {h : HP} {K : Ou → HP → Prop} {t : Int} (hM : M.1 = RX2) (dg : decode M.2.1 pc = .ok (.getfield 15, 3)) (ho : isO h t 2) (kk : AW Γ l M d b (pc + 3) L (vR (h.2.1 t 1) :: S) h K) : AW Γ l M d b pc L (vR t :: S) h K :=
  aw_getf0 (ci := 2) (C := RX2) (T := TX2) (N := 15) (k := 1) (q := (1, 1)) dg rfl (by decide) rfl (fun hown hts hnw => Or.inl (by rw [hM]; exact hts _ flX2_15)) inX2 rfl ho kk
theorem flX2_18 : Cond.fieldLink RX2 18 RX2 (TX2 2).2.1 (TX2 2).2.2.1 ∈ gw := tm1 106 (by decide +kernel) (by decide +kernel)
theorem gfX2_18 {Γ : Cfg} {l : Launch} {M : MT} {d b pc : Nat} {L S : List AV} {h : HP} {K : Ou → HP → Prop} {t : Int} (hM : M.1 = RX2) (dg : decode M.2.1 pc = .ok (.getfield 18, 3)) (ho : isO h t 2) (kk : AW Γ l M d b (pc + 3) L (vR (h.2.1 t 2) :: S) h K) : AW Γ l M d b pc L (vR t :: S) h K :=
  aw_getf0 (ci := 2) (C := RX2) (T := TX2) (N := 15) (k := 2) (q := (1, 2)) dg rfl (by decide) rfl (fun hown hts hnw => Or.inl (by rw [hM]; exact hts _ flX2_18)) inX2 rfl ho kk
theorem flX2_21 : Cond.fieldLink RX2 21 RX2 (TX2 3).2.1 (TX2 3).2.2.1 ∈ gw := tm1 110 (by decide +kernel) (by decide +kernel)
theorem gfX2_21 {Γ : Cfg} {l : Launch} {M : MT} {d b pc : Nat} {L S : List AV} {h : HP} {K : Ou → HP → Prop} {t : Int} (hM : M.1 = RX2) (dg : decode M.2.1 pc = .ok (.getfield 21, 3)) (ho : isO h t 2) (kk : AW Γ l M d b (pc + 3) L (vR (h.2.1 t 3) :: S) h K) : AW Γ l M d b pc L (vR t :: S) h K :=
  aw_getf0 (ci := 2) (C := RX2) (T := TX2) (N := 15) (k := 3) (q := (1, 3)) dg rfl (by decide) rfl (fun hown hts hnw => Or.inl (by rw [hM]; exact hts _ flX2_21)) inX2 rfl ho kk
theorem flX2_24 : Cond.fieldLink RX2 24 RX2 (TX2 4).2.1 (TX2 4).2.2.1 ∈ gw := tm1 114 (by decide +kernel) (by decide +kernel)
theorem gfX2_24 {Γ : Cfg} {l : Launch} {M : MT} {d b pc : Nat} {L S : List AV} {h : HP} {K : Ou → HP → Prop} {t : Int} (hM : M.1 = RX2) (dg : decode M.2.1 pc = .ok (.getfield 24, 3)) (ho : isO h t 2) (kk : AW Γ l M d b (pc + 3) L (vR (h.2.1 t 4) :: S) h K) : AW Γ l M d b pc L (vR t :: S) h K :=
  aw_getf0 (ci := 2) (C := RX2) (T := TX2) (N := 15) (k := 4) (q := (1, 4)) dg rfl (by decide) rfl (fun hown hts hnw => Or.inl (by rw [hM]; exact hts _ flX2_24)) inX2 rfl ho kk
theorem flX2_27 : Cond.fieldLink RX2 27 RX2 (TX2 5).2.1 (TX2 5).2.2.1 ∈ gw := tm1 117 (by decide +kernel) (by decide +kernel)
theorem gfX2_27 {Γ : Cfg} {l : Launch} {M : MT} {d b pc : Nat} {L S : List AV} {h : HP} {K : Ou → HP → Prop} {t : Int} (hM : M.1 = RX2) (dg : decode M.2.1 pc = .ok (.getfield 27, 3)) (ho : isO h t 2) (kk : AW Γ l M d b (pc + 3) L (vR (h.2.1 t 5) :: S) h K) : AW Γ l M d b pc L (vR t :: S) h K :=
  aw_getf0 (ci := 2) (C := RX2) (T := TX2) (N := 15) (k := 5) (q := (1, 5)) dg rfl (by decide) rfl (fun hown hts hnw => Or.inl (by rw [hM]; exact hts _ flX2_27)) inX2 rfl ho kk
theorem flX2_30 : Cond.fieldLink RX2 30 RX2 (TX2 6).2.1 (TX2 6).2.2.1 ∈ gw := tm1 120 (by decide +kernel) (by decide +kernel)
theorem gfX2_30 {Γ : Cfg} {l : Launch} {M : MT} {d b pc : Nat} {L S : List AV} {h : HP} {K : Ou → HP → Prop} {t : Int} (hM : M.1 = RX2) (dg : decode M.2.1 pc = .ok (.getfield 30, 3)) (ho : isO h t 2) (kk : AW Γ l M d b (pc + 3) L (vR (h.2.1 t 6) :: S) h K) : AW Γ l M d b pc L (vR t :: S) h K :=
  aw_getf0 (ci := 2) (C := RX2) (T := TX2) (N := 15) (k := 6) (q := (1, 6)) dg rfl (by decide) rfl (fun hown hts hnw => Or.inl (by rw [hM]; exact hts _ flX2_30)) inX2 rfl ho kk
theorem flX2_33 : Cond.fieldLink RX2 33 RX2 (TX2 7).2.1 (TX2 7).2.2.1 ∈ gw := tm1 125 (by decide +kernel) (by decide +kernel)
theorem gfX2_33 {Γ : Cfg} {l : Launch} {M : MT} {d b pc : Nat} {L S : List AV} {h : HP} {K : Ou → HP → Prop} {t : Int} (hM : M.1 = RX2) (dg : decode M.2.1 pc = .ok (.getfield 33, 3)) (ho : isO h t 2) (kk : AW Γ l M d b (pc + 3) L (vR (h.2.1 t 7) :: S) h K) : AW Γ l M d b pc L (vR t :: S) h K :=
  aw_getf0 (ci := 2) (C := RX2) (T := TX2) (N := 15) (k := 7) (q := (1, 7)) dg rfl (by decide) rfl (fun hown hts hnw => Or.inl (by rw [hM]; exact hts _ flX2_33)) inX2 rfl ho kk
theorem flX2_36 : Cond.fieldLink RX2 36 RX2 (TX2 8).2.1 (TX2 8).2.2.1 ∈ gw := tm1 127 (by decide +kernel) (by decide +kernel)
theorem gfX2_36 {Γ : Cfg} {l : Launch} {M : MT} {d b pc : Nat} {L S : List AV} {h : HP} {K : Ou → HP → Prop} {t : Int} (hM : M.1 = RX2) (dg : decode M.2.1 pc = .ok (.getfield 36, 3)) (ho : isO h t 2) (kk : AW Γ l M d b (pc + 3) L (vI (h.1 t 8) :: S) h K) : AW Γ l M d b pc L (vR t :: S) h K :=
  aw_getf0 (ci := 2) (C := RX2) (T := TX2) (N := 15) (k := 8) (q := (0, 8)) dg rfl (by decide) rfl (fun hown hts hnw => Or.inl (by rw [hM]; exact hts _ flX2_36)) inX2 rfl ho kk
theorem pfX2_36 {Γ : Cfg} {l : Launch} {M : MT} {d b pc : Nat} {L S : List AV} {h : HP} {K : Ou → HP → Prop} {t x : Int} (hM : M.1 = RX2) (dg : decode M.2.1 pc = .ok (.putfield 36, 3)) (ho : isO h t 2) (kk : AW Γ l M d b (pc + 3) L S (upd2 h.1 t 8 x, h.2) K) : AW Γ l M d b pc L (vI x :: vR t :: S) h K :=
  aw_putf0 (ci := 2) (C := RX2) (T := TX2) (N := 15) (k := 8) (q := (0, 8)) (h' := (upd2 h.1 t 8 x, h.2)) tyX2 dg rfl (by decide) rfl (fun hown hts hnw => Or.inl (by rw [hM]; exact hts _ flX2_36)) inX2 tyX2_ok nmX2 rfl rfl rfl rfl ho (fun t' q => entS_upd q) rfl (flv_upd (ci := 2) (k := 8) (q := (0, 8)) rfl (Or.inl rfl)) kk
theorem flX2_40 : Cond.fieldLink RX2 40 RX2 (TX2 9).2.1 (TX2 9).2.2.1 ∈ gw := tm1 132 (by decide +kernel) (by decide +kernel)
theorem gfX2_40 {Γ : Cfg} {l : Launch} {M : MT} {d b pc : Nat} {L S : List AV} {h : HP} {K : Ou → HP → Prop} {t : Int} (hM : M.1 = RX2) (dg : decode M.2.1 pc = .ok (.getfield 40, 3)) (ho : isO h t 2) (kk : AW Γ l M d b (pc + 3) L (vI (h.1 t 9) :: S) h K) : AW Γ l M d b pc L (vR t :: S) h K :=
  aw_getf0 (ci := 2) (C := RX2) (T := TX2) (N := 15) (k := 9) (q := (0, 9)) dg rfl (by decide) rfl (fun hown hts hnw => Or.inl (by rw [hM]; exact hts _ flX2_40)) inX2 rfl ho kk
theorem pfX2_40 {Γ : Cfg} {l : Launch} {M : MT} {d b pc : Nat} {L S : List AV} {h : HP} {K : Ou → HP → Prop} {t x : Int} (hM : M.1 = RX2) (dg : decode M.2.1 pc = .ok (.putfield 40, 3)) (ho : isO h t 2) (kk : AW Γ l M d b (pc + 3) L S (upd2 h.1 t 9 x, h.2) K) : AW Γ l M d b pc L (vI x :: vR t :: S) h K :=
  aw_putf0 (ci := 2) (C := RX2) (T := TX2) (N := 15) (k := 9) (q := (0, 9)) (h' := (upd2 h.1 t 9 x, h.2)) tyX2 dg rfl (by decide) rfl (fun hown hts hnw => Or.inl (by rw [hM]; exact hts _ flX2_40)) inX2 tyX2_ok nmX2 rfl rfl rfl rfl ho (fun t' q => entS_upd q) rfl (flv_upd (ci := 2) (k := 9) (q := (0, 9)) rfl (Or.inl rfl)) kk
theorem flX2_43 : Cond.fieldLink RX2 43 RX2 (TX2 10).2.1 (TX2 10).2.2.1 ∈ gw := tm1 134 (by decide +kernel) (by decide +kernel)
theorem gfX2_43 {Γ : Cfg} {l : Launch} {M : MT} {d b pc : Nat} {L S : List AV} {h : HP} {K : Ou → HP → Prop} {t : Int} (hM : M.1 = RX2) (dg : decode M.2.1 pc = .ok (.getfield 43, 3)) (ho : isO h t 2) (kk : AW Γ l M d b (pc + 3) L (vI (h.1 t 10) :: S) h K) : AW Γ l M d b pc L (vR t :: S) h K :=
  aw_getf0 (ci := 2) (C := RX2) (T := TX2) (N := 15) (k := 10) (q := (0, 10)) dg rfl (by decide) rfl (fun hown hts hnw => Or.inl (by rw [hM]; exact hts _ flX2_43)) inX2 rfl ho kk
theorem pfX2_43 {Γ : Cfg} {l : Launch} {M : MT} {d b pc : Nat} {L S : List AV} {h : HP} {K : Ou → HP → Prop} {t x : Int} (hM : M.1 = RX2) (dg : decode M.2.1 pc = .ok (.putfield 43, 3)) (ho : isO h t 2) (kk : AW Γ l M d b (pc + 3) L S (upd2 h.1 t 10 x, h.2) K) : AW Γ l M d b pc L (vI x :: vR t :: S) h K :=
  aw_putf0 (ci := 2) (C := RX2) (T := TX2) (N := 15) (k := 10) (q := (0, 10)) (h' := (upd2 h.1 t 10 x, h.2)) tyX2 dg rfl (by decide) rfl (fun hown hts hnw => Or.inl (by rw [hM]; exact hts _ flX2_43)) inX2 tyX2_ok nmX2 rfl rfl rfl rfl ho (fun t' q => entS_upd q) rfl (flv_upd (ci := 2) (k := 10) (q := (0, 10)) rfl (Or.inl rfl)) kk
theorem flX2_46 : Cond.fieldLink RX2 46 RX2 (TX2 11).2.1 (TX2 11).2.2.1 ∈ gw := tm1 138 (by decide +kernel) (by decide +kernel)
theorem gfX2_46 {Γ : Cfg} {l : Launch} {M : MT} {d b pc : Nat} {L S : List AV} {h : HP} {K : Ou → HP → Prop} {t : Int} (hM : M.1 = RX2) (dg : decode M.2.1 pc = .ok (.getfield 46, 3)) (ho : isO h t 2) (kk : AW Γ l M d b (pc + 3) L (vI (h.1 t 11) :: S) h K) : AW Γ l M d b pc L (vR t :: S) h K :=
  aw_getf0 (ci := 2) (C := RX2) (T := TX2) (N := 15) (k := 11) (q := (0, 11)) dg rfl (by decide) rfl (fun hown hts hnw => Or.inl (by rw [hM]; exact hts _ flX2_46)) inX2 rfl ho kk
theorem pfX2_46 {Γ : Cfg} {l : Launch} {M : MT} {d b pc : Nat} {L S : List AV} {h : HP} {K : Ou → HP → Prop} {t x : Int} (hM : M.1 = RX2) (dg : decode M.2.1 pc = .ok (.putfield 46, 3)) (ho : isO h t 2) (kk : AW Γ l M d b (pc + 3) L S (upd2 h.1 t 11 x, h.2) K) : AW Γ l M d b pc L (vI x :: vR t :: S) h K :=
  aw_putf0 (ci := 2) (C := RX2) (T := TX2) (N := 15) (k := 11) (q := (0, 11)) (h' := (upd2 h.1 t 11 x, h.2)) tyX2 dg rfl (by decide) rfl (fun hown hts hnw => Or.inl (by rw [hM]; exact hts _ flX2_46)) inX2 tyX2_ok nmX2 rfl rfl rfl rfl ho (fun t' q => entS_upd q) rfl (flv_upd (ci := 2) (k := 11) (q := (0, 11)) rfl (Or.inl rfl)) kk
theorem flX2_49 : Cond.fieldLink RX2 49 RX2 (TX2 12).2.1 (TX2 12).2.2.1 ∈ gw := tm1 142 (by decide +kernel) (by decide +kernel)
theorem gfX2_49 {Γ : Cfg} {l : Launch} {M : MT} {d b pc : Nat} {L S : List AV} {h : HP} {K : Ou → HP → Prop} {t : Int} (hM : M.1 = RX2) (dg : decode M.2.1 pc = .ok (.getfield 49, 3)) (ho : isO h t 2) (kk : AW Γ l M d b (pc + 3) L (vI (h.1 t 12) :: S) h K) : AW Γ l M d b pc L (vR t :: S) h K :=
  aw_getf0 (ci := 2) (C := RX2) (T := TX2) (N := 15) (k := 12) (q := (0, 12)) dg rfl (by decide) rfl (fun hown hts hnw => Or.inl (by rw [hM]; exact hts _ flX2_49)) inX2 rfl ho kk
theorem pfX2_49 {Γ : Cfg} {l : Launch} {M : MT} {d b pc : Nat} {L S : List AV} {h : HP} {K : Ou → HP → Prop} {t x : Int} (hM : M.1 = RX2) (dg : decode M.2.1 pc = .ok (.putfield 49, 3)) (ho : isO h t 2) (kk : AW Γ l M d b (pc + 3) L S (upd2 h.1 t 12 x, h.2) K) : AW Γ l M d b pc L (vI x :: vR t :: S) h K :=
  aw_putf0 (ci := 2) (C := RX2) (T := TX2) (N := 15) (k := 12) (q := (0, 12)) (h' := (upd2 h.1 t 12 x, h.2)) tyX2 dg rfl (by decide) rfl (fun hown hts hnw => Or.inl (by rw [hM]; exact hts _ flX2_49)) inX2 tyX2_ok nmX2 rfl rfl rfl rfl ho (fun t' q => entS_upd q) rfl (flv_upd (ci := 2) (k := 12) (q := (0, 12)) rfl (Or.inl rfl)) kk
theorem flX2_52 : Cond.fieldLink RX2 52 RX2 (TX2 13).2.1 (TX2 13).2.2.1 ∈ gw := tm1 146 (by decide +kernel) (by decide +kernel)
theorem gfX2_52 {Γ : Cfg} {l : Launch} {M : MT} {d b pc : Nat} {L S : List AV} {h : HP} {K : Ou → HP → Prop} {t : Int} (hM : M.1 = RX2) (dg : decode M.2.1 pc = .ok (.getfield 52, 3)) (ho : isO h t 2) (kk : AW Γ l M d b (pc + 3) L (vI (h.1 t 13) :: S) h K) : AW Γ l M d b pc L (vR t :: S) h K :=
  aw_getf0 (ci := 2) (C := RX2) (T := TX2) (N := 15) (k := 13) (q := (0, 13)) dg rfl (by decide) rfl (fun hown hts hnw => Or.inl (by rw [hM]; exact hts _ flX2_52)) inX2 rfl ho kk
theorem pfX2_52 {Γ : Cfg} {l : Launch} {M : MT} {d b pc : Nat} {L S : List AV} {h : HP} {K : Ou → HP → Prop} {t x : Int} (hM : M.1 = RX2) (dg : decode M.2.1 pc = .ok (.putfield 52, 3)) (ho : isO h t 2) (kk : AW Γ l M d b (pc + 3) L S (upd2 h.1 t 13 x, h.2) K) : AW Γ l M d b pc L (vI x :: vR t :: S) h K :=
  aw_putf0 (ci := 2) (C := RX2) (T := TX2) (N := 15) (k := 13) (q := (0, 13)) (h' := (upd2 h.1 t 13 x, h.2)) tyX2 dg rfl (by decide) rfl (fun hown hts hnw => Or.inl (by rw [hM]; exact hts _ flX2_52)) inX2 tyX2_ok nmX2 rfl rfl rfl rfl ho (fun t' q => entS_upd q) rfl (flv_upd (ci := 2) (k := 13) (q := (0, 13)) rfl (Or.inl rfl)) kk
theorem flX2_55 : Cond.fieldLink RX2 55 RX2 (TX2 14).2.1 (TX2 14).2.2.1 ∈ gw := tm1 148 (by decide +kernel) (by decide +kernel)
theorem gfX2_55 {Γ : Cfg} {l : Launch} {M : MT} {d b pc : Nat} {L S : List AV} {h : HP} {K : Ou → HP → Prop} {t : Int} (hM : M.1 = RX2) (dg : decode M.2.1 pc = .ok (.getfield 55, 3)) (ho : isO h t 2) (kk : AW Γ l M d b (pc + 3) L (vI (h.1 t 14) :: S) h K) : AW Γ l M d b pc L (vR t :: S) h K :=
  aw_getf0 (ci := 2) (C := RX2) (T := TX2) (N := 15) (k := 14) (q := (0, 14)) dg rfl (by decide) rfl (fun hown hts hnw => Or.inl (by rw [hM]; exact hts _ flX2_55)) inX2 rfl ho kk
theorem pfX2_55 {Γ : Cfg} {l : Launch} {M : MT} {d b pc : Nat} {L S : List AV} {h : HP} {K : Ou → HP → Prop} {t x : Int} (hM : M.1 = RX2) (dg : decode M.2.1 pc = .ok (.putfield 55, 3)) (ho : isO h t 2) (kk : AW Γ l M d b (pc + 3) L S (upd2 h.1 t 14 x, h.2) K) : AW Γ l M d b pc L (vI x :: vR t :: S) h K :=
  aw_putf0 (ci := 2) (C := RX2) (T := TX2) (N := 15) (k := 14) (q := (0, 14)) (h' := (upd2 h.1 t 14 x, h.2)) tyX2 dg rfl (by decide) rfl (fun hown hts hnw => Or.inl (by rw [hM]; exact hts _ flX2_55)) inX2 tyX2_ok nmX2 rfl rfl rfl rfl ho (fun t' q => entS_upd q) rfl (flv_upd (ci := 2) (k := 14) (q := (0, 14)) rfl (Or.inl rfl)) kk
theorem flX3_9 : Cond.fieldLinkNest RX3 9 RX10 (TX10 4).2.1 (TX10 4).2.2.1 "HalfOaths" ∈ nw := tn1 69 (by decide +kernel) (by decide +kernel)
theorem gfX3_9 {Γ : Cfg} {l : Launch} {M : MT} {d b pc : Nat} {L S : List AV} {h : HP} {K : Ou → HP → Prop} {t : Int} (hM : M.1 = RX3) (dg : decode M.2.1 pc = .ok (.getfield 9, 3)) (ho : isO h t 8) (kk : AW Γ l M d b (pc + 3) L (vR (h.1 t 4) :: S) h K) : AW Γ l M d b pc L (vR t :: S) h K :=
  aw_getf0 (ci := 8) (C := RX10) (T := TX10) (N := 7) (k := 4) (q := (2, 4)) dg rfl (by decide) rfl (fun hown hts hnw => Or.inr ⟨"HalfOaths", by rw [hM]; exact va_Nw.use rfl (hnw _ flX3_9)⟩) inX10 rfl ho kk
theorem flX3_57 : Cond.fieldLinkNest RX3 57 RX10 (TX10 6).2.1 (TX10 6).2.2.1 "HalfOaths" ∈ nw := tn1 75 (by decide +kernel) (by decide +kernel)
theorem gfX3_57 {Γ : Cfg} {l : Launch} {M : MT} {d b pc : Nat} {L S : List AV} {h : HP} {K : Ou → HP → Prop} {t : Int} (hM : M.1 = RX3) (dg : decode M.2.1 pc = .ok (.getfield 57, 3)) (ho : isO h t 8) (kk : AW Γ l M d b (pc + 3) L (vI (h.1 t 6) :: S) h K) : AW Γ l M d b pc L (vR t :: S) h K :=
  aw_getf0 (ci := 8) (C := RX10) (T := TX10) (N := 7) (k := 6) (q := (0, 6)) dg rfl (by decide) rfl (fun hown hts hnw => Or.inr ⟨"HalfOaths", by rw [hM]; exact va_Nw.use rfl (hnw _ flX3_57)⟩) inX10 rfl ho kk
theorem flX3_61 : Cond.fieldLinkNest RX3 61 RX2 (TX2 10).2.1 (TX2 10).2.2.1 "HalfOaths" ∈ nw := tn1 136 (by decide +kernel) (by decide +kernel)
theorem pfX3_61 {Γ : Cfg} {l : Launch} {M : MT} {d b pc : Nat} {L S : List AV} {h : HP} {K : Ou → HP → Prop} {t x : Int} (hM : M.1 = RX3) (dg : decode M.2.1 pc = .ok (.putfield 61, 3)) (ho : isO h t 2) (kk : AW Γ l M d b (pc + 3) L S (upd2 h.1 t 10 x, h.2) K) : AW Γ l M d b pc L (vI x :: vR t :: S) h K :=
  aw_putf0 (ci := 2) (C := RX2) (T := TX2) (N := 15) (k := 10) (q := (0, 10)) (h' := (upd2 h.1 t 10 x, h.2)) tyX2 dg rfl (by decide) rfl (fun hown hts hnw => Or.inr ⟨"HalfOaths", by rw [hM]; exact va_Nw.use rfl (hnw _ flX3_61)⟩) inX2 tyX2_ok nmX2 rfl rfl rfl rfl ho (fun t' q => entS_upd q) rfl (flv_upd (ci := 2) (k := 10) (q := (0, 10)) rfl (Or.inl rfl)) kk
theorem flX3_66 : Cond.fieldLinkNest RX3 66 RX2 (TX2 11).2.1 (TX2 11).2.2.1 "HalfOaths" ∈ nw := tn1 140 (by decide +kernel) (by decide +kernel)
theorem pfX3_66 {Γ : Cfg} {l : Launch} {M : MT} {d b pc : Nat} {L S : List AV} {h : HP} {K : Ou → HP → Prop} {t x : Int} (hM : M.1 = RX3) (dg : decode M.2.1 pc = .ok (.putfield 66, 3)) (ho : isO h t 2) (kk : AW Γ l M d b (pc + 3) L S (upd2 h.1 t 11 x, h.2) K) : AW Γ l M d b pc L (vI x :: vR t :: S) h K :=
  aw_putf0 (ci := 2) (C := RX2) (T := TX2) (N := 15) (k := 11) (q := (0, 11)) (h' := (upd2 h.1 t 11 x, h.2)) tyX2 dg rfl (by decide) rfl (fun hown hts hnw => Or.inr ⟨"HalfOaths", by rw [hM]; exact va_Nw.use rfl (hnw _ flX3_66)⟩) inX2 tyX2_ok nmX2 rfl rfl rfl rfl ho (fun t' q => entS_upd q) rfl (flv_upd (ci := 2) (k := 11) (q := (0, 11)) rfl (Or.inl rfl)) kk
theorem flX3_69 : Cond.fieldLinkNest RX3 69 RX2 (TX2 12).2.1 (TX2 12).2.2.1 "HalfOaths" ∈ nw := tn1 144 (by decide +kernel) (by decide +kernel)
theorem pfX3_69 {Γ : Cfg} {l : Launch} {M : MT} {d b pc : Nat} {L S : List AV} {h : HP} {K : Ou → HP → Prop} {t x : Int} (hM : M.1 = RX3) (dg : decode M.2.1 pc = .ok (.putfield 69, 3)) (ho : isO h t 2) (kk : AW Γ l M d b (pc + 3) L S (upd2 h.1 t 12 x, h.2) K) : AW Γ l M d b pc L (vI x :: vR t :: S) h K :=
  aw_putf0 (ci := 2) (C := RX2) (T := TX2) (N := 15) (k := 12) (q := (0, 12)) (h' := (upd2 h.1 t 12 x, h.2)) tyX2 dg rfl (by decide) rfl (fun hown hts hnw => Or.inr ⟨"HalfOaths", by rw [hM]; exact va_Nw.use rfl (hnw _ flX3_69)⟩) inX2 tyX2_ok nmX2 rfl rfl rfl rfl ho (fun t' q => entS_upd q) rfl (flv_upd (ci := 2) (k := 12) (q := (0, 12)) rfl (Or.inl rfl)) kk
theorem flX3_72 : Cond.fieldLinkNest RX3 72 RX2 (TX2 6).2.1 (TX2 6).2.2.1 "HalfOaths" ∈ nw := tn1 122 (by decide +kernel) (by decide +kernel)
theorem gfX3_72 {Γ : Cfg} {l : Launch} {M : MT} {d b pc : Nat} {L S : List AV} {h : HP} {K : Ou → HP → Prop} {t : Int} (hM : M.1 = RX3) (dg : decode M.2.1 pc = .ok (.getfield 72, 3)) (ho : isO h t 2) (kk : AW Γ l M d b (pc + 3) L (vR (h.2.1 t 6) :: S) h K) : AW Γ l M d b pc L (vR t :: S) h K :=
  aw_getf0 (ci := 2) (C := RX2) (T := TX2) (N := 15) (k := 6) (q := (1, 6)) dg rfl (by decide) rfl (fun hown hts hnw => Or.inr ⟨"HalfOaths", by rw [hM]; exact va_Nw.use rfl (hnw _ flX3_72)⟩) inX2 rfl ho kk
theorem flX3_80 : Cond.fieldLinkNest RX3 80 RX2 (TX2 8).2.1 (TX2 8).2.2.1 "HalfOaths" ∈ nw := tn1 130 (by decide +kernel) (by decide +kernel)
theorem gfX3_80 {Γ : Cfg} {l : Launch} {M : MT} {d b pc : Nat} {L S : List AV} {h : HP} {K : Ou → HP → Prop} {t : Int} (hM : M.1 = RX3) (dg : decode M.2.1 pc = .ok (.getfield 80, 3)) (ho : isO h t 2) (kk : AW Γ l M d b (pc + 3) L (vI (h.1 t 8) :: S) h K) : AW Γ l M d b pc L (vR t :: S) h K :=
  aw_getf0 (ci := 2) (C := RX2) (T := TX2) (N := 15) (k := 8) (q := (0, 8)) dg rfl (by decide) rfl (fun hown hts hnw => Or.inr ⟨"HalfOaths", by rw [hM]; exact va_Nw.use rfl (hnw _ flX3_80)⟩) inX2 rfl ho kk
theorem pfX3_80 {Γ : Cfg} {l : Launch} {M : MT} {d b pc : Nat} {L S : List AV} {h : HP} {K : Ou → HP → Prop} {t x : Int} (hM : M.1 = RX3) (dg : decode M.2.1 pc = .ok (.putfield 80, 3)) (ho : isO h t 2) (kk : AW Γ l M d b (pc + 3) L S (upd2 h.1 t 8 x, h.2) K) : AW Γ l M d b pc L (vI x :: vR t :: S) h K :=
  aw_putf0 (ci := 2) (C := RX2) (T := TX2) (N := 15) (k := 8) (q := (0, 8)) (h' := (upd2 h.1 t 8 x, h.2)) tyX2 dg rfl (by decide) rfl (fun hown hts hnw => Or.inr ⟨"HalfOaths", by rw [hM]; exact va_Nw.use rfl (hnw _ flX3_80)⟩) inX2 tyX2_ok nmX2 rfl rfl rfl rfl ho (fun t' q => entS_upd q) rfl (flv_upd (ci := 2) (k := 8) (q := (0, 8)) rfl (Or.inl rfl)) kk
theorem flX3_87 : Cond.fieldLinkNest RX3 87 RX2 (TX2 2).2.1 (TX2 2).2.2.1 "HalfOaths" ∈ nw := tn1 108 (by decide +kernel) (by decide +kernel)
theorem gfX3_87 {Γ : Cfg} {l : Launch} {M : MT} {d b pc : Nat} {L S : List AV} {h : HP} {K : Ou → HP → Prop} {t : Int} (hM : M.1 = RX3) (dg : decode M.2.1 pc = .ok (.getfield 87, 3)) (ho : isO h t 2) (kk : AW Γ l M d b (pc + 3) L (vR (h.2.1 t 2) :: S) h K) : AW Γ l M d b pc L (vR t :: S) h K :=
  aw_getf0 (ci := 2) (C := RX2) (T := TX2) (N := 15) (k := 2) (q := (1, 2)) dg rfl (by decide) rfl (fun hown hts hnw => Or.inr ⟨"HalfOaths", by rw [hM]; exact va_Nw.use rfl (hnw _ flX3_87)⟩) inX2 rfl ho kk
theorem flX3_90 : Cond.fieldLinkNest RX3 90 RX2 (TX2 3).2.1 (TX2 3).2.2.1 "HalfOaths" ∈ nw := tn1 112 (by decide +kernel) (by decide +kernel)
theorem gfX3_90 {Γ : Cfg} {l : Launch} {M : MT} {d b pc : Nat} {L S : List AV} {h : HP} {K : Ou → HP → Prop} {t : Int} (hM : M.1 = RX3) (dg : decode M.2.1 pc = .ok (.getfield 90, 3)) (ho : isO h t 2) (kk : AW Γ l M d b (pc + 3) L (vR (h.2.1 t 3) :: S) h K) : AW Γ l M d b pc L (vR t :: S) h K :=
  aw_getf0 (ci := 2) (C := RX2) (T := TX2) (N := 15) (k := 3) (q := (1, 3)) dg rfl (by decide) rfl (fun hown hts hnw => Or.inr ⟨"HalfOaths", by rw [hM]; exact va_Nw.use rfl (hnw _ flX3_90)⟩) inX2 rfl ho kk
theorem flX3_110 : Cond.fieldLinkNest RX3 110 RX2 (TX2 0).2.1 (TX2 0).2.2.1 "HalfOaths" ∈ nw := tn1 99 (by decide +kernel) (by decide +kernel)
theorem gfX3_110 {Γ : Cfg} {l : Launch} {M : MT} {d b pc : Nat} {L S : List AV} {h : HP} {K : Ou → HP → Prop} {t : Int} (hM : M.1 = RX3) (dg : decode M.2.1 pc = .ok (.getfield 110, 3)) (ho : isO h t 2) (kk : AW Γ l M d b (pc + 3) L (vR (h.2.1 t 0) :: S) h K) : AW Γ l M d b pc L (vR t :: S) h K :=
  aw_getf0 (ci := 2) (C := RX2) (T := TX2) (N := 15) (k := 0) (q := (1, 0)) dg rfl (by decide) rfl (fun hown hts hnw => Or.inr ⟨"HalfOaths", by rw [hM]; exact va_Nw.use rfl (hnw _ flX3_110)⟩) inX2 rfl ho kk
theorem flX3_113 : Cond.fieldLinkNest RX3 113 RX2 (TX2 1).2.1 (TX2 1).2.2.1 "HalfOaths" ∈ nw := tn1 104 (by decide +kernel) (by decide +kernel)
theorem gfX3_113 {Γ : Cfg} {l : Launch} {M : MT} {d b pc : Nat} {L S : List AV} {h : HP} {K : Ou → HP → Prop} {t : Int} (hM : M.1 = RX3) (dg : decode M.2.1 pc = .ok (.getfield 113, 3)) (ho : isO h t 2) (kk : AW Γ l M d b (pc + 3) L (vR (h.2.1 t 1) :: S) h K) : AW Γ l M d b pc L (vR t :: S) h K :=
  aw_getf0 (ci := 2) (C := RX2) (T := TX2) (N := 15) (k := 1) (q := (1, 1)) dg rfl (by decide) rfl (fun hown hts hnw => Or.inr ⟨"HalfOaths", by rw [hM]; exact va_Nw.use rfl (hnw _ flX3_113)⟩) inX2 rfl ho kk
theorem flX4_9 : Cond.fieldLink RX4 9 RX4 (TX4 0).2.1 (TX4 0).2.2.1 ∈ gw := tm1 187 (by decide +kernel) (by decide +kernel)
theorem gfX4_9 {Γ : Cfg} {l : Launch} {M : MT} {d b pc : Nat} {L S : List AV} {h : HP} {K : Ou → HP → Prop} {t : Int} (hM : M.1 = RX4) (dg : decode M.2.1 pc = .ok (.getfield 9, 3)) (ho : isO h t 3) (kk : AW Γ l M d b (pc + 3) L (vR (h.2.1 t 0) :: S) h K) : AW Γ l M d b pc L (vR t :: S) h K :=
  aw_getf0 (ci := 3) (C := RX4) (T := TX4) (N := 8) (k := 0) (q := (1, 0)) dg rfl (by decide) rfl (fun hown hts hnw => Or.inl (by rw [hM]; exact hts _ flX4_9)) inX4 rfl ho kk
theorem flX4_15 : Cond.fieldLink RX4 15 RX4 (TX4 1).2.1 (TX4 1).2.2.1 ∈ gw := tm1 188 (by decide +kernel) (by decide +kernel)
theorem gfX4_15 {Γ : Cfg} {l : Launch} {M : MT} {d b pc : Nat} {L S : List AV} {h : HP} {K : Ou → HP → Prop} {t : Int} (hM : M.1 = RX4) (dg : decode M.2.1 pc = .ok (.getfield 15, 3)) (ho : isO h t 3) (kk : AW Γ l M d b (pc + 3) L (vR (h.2.1 t 1) :: S) h K) : AW Γ l M d b pc L (vR t :: S) h K :=
  aw_getf0 (ci := 3) (C := RX4) (T := TX4) (N := 8) (k := 1) (q := (1, 1)) dg rfl (by decide) rfl (fun hown hts hnw => Or.inl (by rw [hM]; exact hts _ flX4_15)) inX4 rfl ho kk
theorem flX4_18 : Cond.fieldLink RX4 18 RX4 (TX4 2).2.1 (TX4 2).2.2.1 ∈ gw := tm1 189 (by decide +kernel) (by decide +kernel)
theorem gfX4_18 {Γ : Cfg} {l : Launch} {M : MT} {d b pc : Nat} {L S : List AV} {h : HP} {K : Ou → HP → Prop} {t : Int} (hM : M.1 = RX4) (dg : decode M.2.1 pc = .ok (.getfield 18, 3)) (ho : isO h t 3) (kk : AW Γ l M d b (pc + 3) L (vI (h.1 t 2) :: S) h K) : AW Γ l M d b pc L (vR t :: S) h K :=
  aw_getf0 (ci := 3) (C := RX4) (T := TX4) (N := 8) (k := 2) (q := (0, 2)) dg rfl (by decide) rfl (fun hown hts hnw => Or.inl (by rw [hM]; exact hts _ flX4_18)) inX4 rfl ho kk
theorem pfX4_18 {Γ : Cfg} {l : Launch} {M : MT} {d b pc : Nat} {L S : List AV} {h : HP} {K : Ou → HP → Prop} {t x : Int} (hM : M.1 = RX4) (dg : decode M.2.1 pc = .ok (.putfield 18, 3)) (ho : isO h t 3) (kk : AW Γ l M d b (pc + 3) L S (upd2 h.1 t 2 x, h.2) K) : AW Γ l M d b pc L (vI x :: vR t :: S) h K :=
  aw_putf0 (ci := 3) (C := RX4) (T := TX4) (N := 8) (k := 2) (q := (0, 2)) (h' := (upd2 h.1 t 2 x, h.2)) tyX4 dg rfl (by decide) rfl (fun hown hts hnw => Or.inl (by rw [hM]; exact hts _ flX4_18)) inX4 tyX4_ok nmX4 rfl rfl rfl rfl ho (fun t' q => entS_upd q) rfl (flv_upd (ci := 3) (k := 2) (q := (0, 2)) rfl (Or.inl rfl)) kk
theorem flX4_22 : Cond.fieldLink RX4 22 RX4 (TX4 3).2.1 (TX4 3).2.2.1 ∈ gw := tm1 190 (by decide +kernel) (by decide +kernel)
theorem gfX4_22 {Γ : Cfg} {l : Launch} {M : MT} {d b pc : Nat} {L S : List AV} {h : HP} {K : Ou → HP → Prop} {t : Int} (hM : M.1 = RX4) (dg : decode M.2.1 pc = .ok (.getfield 22, 3)) (ho : isO h t 3) (kk : AW Γ l M d b (pc + 3) L (vI (h.1 t 3) :: S) h K) : AW Γ l M d b pc L (vR t :: S) h K :=
  aw_getf0 (ci := 3) (C := RX4) (T := TX4) (N := 8) (k := 3) (q := (0, 3)) dg rfl (by decide) rfl (fun hown hts hnw => Or.inl (by rw [hM]; exact hts _ flX4_22)) inX4 rfl ho kk
theorem pfX4_22 {Γ : Cfg} {l : Launch} {M : MT} {d b pc : Nat} {L S : List AV} {h : HP} {K : Ou → HP → Prop} {t x : Int} (hM : M.1 = RX4) (dg : decode M.2.1 pc = .ok (.putfield 22, 3)) (ho : isO h t 3) (kk : AW Γ l M d b (pc + 3) L S (upd2 h.1 t 3 x, h.2) K) : AW Γ l M d b pc L (vI x :: vR t :: S) h K :=
  aw_putf0 (ci := 3) (C := RX4) (T := TX4) (N := 8) (k := 3) (q := (0, 3)) (h' := (upd2 h.1 t 3 x, h.2)) tyX4 dg rfl (by decide) rfl (fun hown hts hnw => Or.inl (by rw [hM]; exact hts _ flX4_22)) inX4 tyX4_ok nmX4 rfl rfl rfl rfl ho (fun t' q => entS_upd q) rfl (flv_upd (ci := 3) (k := 3) (q := (0, 3)) rfl (Or.inl rfl)) kk
theorem flX4_25 : Cond.fieldLink RX4 25 RX4 (TX4 4).2.1 (TX4 4).2.2.1 ∈ gw := tm1 192 (by decide +kernel) (by decide +kernel)
theorem gfX4_25 {Γ : Cfg} {l : Launch} {M : MT} {d b pc : Nat} {L S : List AV} {h : HP} {K : Ou → HP → Prop} {t : Int} (hM : M.1 = RX4) (dg : decode M.2.1 pc = .ok (.getfield 25, 3)) (ho : isO h t 3) (kk : AW Γ l M d b (pc + 3) L (vI (h.1 t 4) :: S) h K) : AW Γ l M d b pc L (vR t :: S) h K :=
  aw_getf0 (ci := 3) (C := RX4) (T := TX4) (N := 8) (k := 4) (q := (0, 4)) dg rfl (by decide) rfl (fun hown hts hnw => Or.inl (by rw [hM]; exact hts _ flX4_25)) inX4 rfl ho kk
theorem pfX4_25 {Γ : Cfg} {l : Launch} {M : MT} {d b pc : Nat} {L S : List AV} {h : HP} {K : Ou → HP → Prop} {t x : Int} (hM : M.1 = RX4) (dg : decode M.2.1 pc = .ok (.putfield 25, 3)) (ho : isO h t 3) (hx : narrow .boolean (.int (Int32.ofInt x)) = .int (Int32.ofInt x)) (hx2 : fits .boolean (.int (Int32.ofInt x)) = true) (kk : AW Γ l M d b (pc + 3) L S (upd2 h.1 t 4 x, h.2) K) : AW Γ l M d b pc L (vI x :: vR t :: S) h K :=
  aw_putf0 (ci := 3) (C := RX4) (T := TX4) (N := 8) (k := 4) (q := (0, 4)) (h' := (upd2 h.1 t 4 x, h.2)) tyX4 dg rfl (by decide) rfl (fun hown hts hnw => Or.inl (by rw [hM]; exact hts _ flX4_25)) inX4 tyX4_ok nmX4 rfl hx hx2 rfl ho (fun t' q => entS_upd q) rfl (flv_upd (ci := 3) (k := 4) (q := (0, 4)) rfl (Or.inl rfl)) kk
theorem flX4_29 : Cond.fieldLink RX4 29 RX4 (TX4 5).2.1 (TX4 5).2.2.1 ∈ gw := tm1 194 (by decide +kernel) (by decide +kernel)
theorem gfX4_29 {Γ : Cfg} {l : Launch} {M : MT} {d b pc : Nat} {L S : List AV} {h : HP} {K : Ou → HP → Prop} {t : Int} (hM : M.1 = RX4) (dg : decode M.2.1 pc = .ok (.getfield 29, 3)) (ho : isO h t 3) (kk : AW Γ l M d b (pc + 3) L (vI (h.1 t 5) :: S) h K) : AW Γ l M d b pc L (vR t :: S) h K :=
  aw_getf0 (ci := 3) (C := RX4) (T := TX4) (N := 8) (k := 5) (q := (0, 5)) dg rfl (by decide) rfl (fun hown hts hnw => Or.inl (by rw [hM]; exact hts _ flX4_29)) inX4 rfl ho kk
theorem pfX4_29 {Γ : Cfg} {l : Launch} {M : MT} {d b pc : Nat} {L S : List AV} {h : HP} {K : Ou → HP → Prop} {t x : Int} (hM : M.1 = RX4) (dg : decode M.2.1 pc = .ok (.putfield 29, 3)) (ho : isO h t 3) (kk : AW Γ l M d b (pc + 3) L S (upd2 h.1 t 5 x, h.2) K) : AW Γ l M d b pc L (vI x :: vR t :: S) h K :=
  aw_putf0 (ci := 3) (C := RX4) (T := TX4) (N := 8) (k := 5) (q := (0, 5)) (h' := (upd2 h.1 t 5 x, h.2)) tyX4 dg rfl (by decide) rfl (fun hown hts hnw => Or.inl (by rw [hM]; exact hts _ flX4_29)) inX4 tyX4_ok nmX4 rfl rfl rfl rfl ho (fun t' q => entS_upd q) rfl (flv_upd (ci := 3) (k := 5) (q := (0, 5)) rfl (Or.inl rfl)) kk
theorem flX4_32 : Cond.fieldLink RX4 32 RX4 (TX4 6).2.1 (TX4 6).2.2.1 ∈ gw := tm1 196 (by decide +kernel) (by decide +kernel)
theorem gfX4_32 {Γ : Cfg} {l : Launch} {M : MT} {d b pc : Nat} {L S : List AV} {h : HP} {K : Ou → HP → Prop} {t : Int} (hM : M.1 = RX4) (dg : decode M.2.1 pc = .ok (.getfield 32, 3)) (ho : isO h t 3) (kk : AW Γ l M d b (pc + 3) L (vI (h.1 t 6) :: S) h K) : AW Γ l M d b pc L (vR t :: S) h K :=
  aw_getf0 (ci := 3) (C := RX4) (T := TX4) (N := 8) (k := 6) (q := (0, 6)) dg rfl (by decide) rfl (fun hown hts hnw => Or.inl (by rw [hM]; exact hts _ flX4_32)) inX4 rfl ho kk
theorem pfX4_32 {Γ : Cfg} {l : Launch} {M : MT} {d b pc : Nat} {L S : List AV} {h : HP} {K : Ou → HP → Prop} {t x : Int} (hM : M.1 = RX4) (dg : decode M.2.1 pc = .ok (.putfield 32, 3)) (ho : isO h t 3) (kk : AW Γ l M d b (pc + 3) L S (upd2 h.1 t 6 x, h.2) K) : AW Γ l M d b pc L (vI x :: vR t :: S) h K :=
  aw_putf0 (ci := 3) (C := RX4) (T := TX4) (N := 8) (k := 6) (q := (0, 6)) (h' := (upd2 h.1 t 6 x, h.2)) tyX4 dg rfl (by decide) rfl (fun hown hts hnw => Or.inl (by rw [hM]; exact hts _ flX4_32)) inX4 tyX4_ok nmX4 rfl rfl rfl rfl ho (fun t' q => entS_upd q) rfl (flv_upd (ci := 3) (k := 6) (q := (0, 6)) rfl (Or.inl rfl)) kk
theorem flX4_35 : Cond.fieldLink RX4 35 RX4 (TX4 7).2.1 (TX4 7).2.2.1 ∈ gw := tm1 198 (by decide +kernel) (by decide +kernel)
theorem gfX4_35 {Γ : Cfg} {l : Launch} {M : MT} {d b pc : Nat} {L S : List AV} {h : HP} {K : Ou → HP → Prop} {t : Int} (hM : M.1 = RX4) (dg : decode M.2.1 pc = .ok (.getfield 35, 3)) (ho : isO h t 3) (kk : AW Γ l M d b (pc + 3) L (vI (h.1 t 7) :: S) h K) : AW Γ l M d b pc L (vR t :: S) h K :=
  aw_getf0 (ci := 3) (C := RX4) (T := TX4) (N := 8) (k := 7) (q := (0, 7)) dg rfl (by decide) rfl (fun hown hts hnw => Or.inl (by rw [hM]; exact hts _ flX4_35)) inX4 rfl ho kk
theorem pfX4_35 {Γ : Cfg} {l : Launch} {M : MT} {d b pc : Nat} {L S : List AV} {h : HP} {K : Ou → HP → Prop} {t x : Int} (hM : M.1 = RX4) (dg : decode M.2.1 pc = .ok (.putfield 35, 3)) (ho : isO h t 3) (kk : AW Γ l M d b (pc + 3) L S (upd2 h.1 t 7 x, h.2) K) : AW Γ l M d b pc L (vI x :: vR t :: S) h K :=
  aw_putf0 (ci := 3) (C := RX4) (T := TX4) (N := 8) (k := 7) (q := (0, 7)) (h' := (upd2 h.1 t 7 x, h.2)) tyX4 dg rfl (by decide) rfl (fun hown hts hnw => Or.inl (by rw [hM]; exact hts _ flX4_35)) inX4 tyX4_ok nmX4 rfl rfl rfl rfl ho (fun t' q => entS_upd q) rfl (flv_upd (ci := 3) (k := 7) (q := (0, 7)) rfl (Or.inl rfl)) kk
theorem flX4_44 : Cond.fieldLinkNest RX4 44 RX10 (TX10 4).2.1 (TX10 4).2.2.1 "HalfOaths" ∈ nw := tn1 70 (by decide +kernel) (by decide +kernel)
theorem gfX4_44 {Γ : Cfg} {l : Launch} {M : MT} {d b pc : Nat} {L S : List AV} {h : HP} {K : Ou → HP → Prop} {t : Int} (hM : M.1 = RX4) (dg : decode M.2.1 pc = .ok (.getfield 44, 3)) (ho : isO h t 8) (kk : AW Γ l M d b (pc + 3) L (vR (h.1 t 4) :: S) h K) : AW Γ l M d b pc L (vR t :: S) h K :=
  aw_getf0 (ci := 8) (C := RX10) (T := TX10) (N := 7) (k := 4) (q := (2, 4)) dg rfl (by decide) rfl (fun hown hts hnw => Or.inr ⟨"HalfOaths", by rw [hM]; exact va_Nw.use rfl (hnw _ flX4_44)⟩) inX10 rfl ho kk
theorem flX4_66 : Cond.fieldLinkNest RX4 66 RX10 (TX10 6).2.1 (TX10 6).2.2.1 "HalfOaths" ∈ nw := tn1 74 (by decide +kernel) (by decide +kernel)
theorem gfX4_66 {Γ : Cfg} {l : Launch} {M : MT} {d b pc : Nat} {L S : List AV} {h : HP} {K : Ou → HP → Prop} {t : Int} (hM : M.1 = RX4) (dg : decode M.2.1 pc = .ok (.getfield 66, 3)) (ho : isO h t 8) (kk : AW Γ l M d b (pc + 3) L (vI (h.1 t 6) :: S) h K) : AW Γ l M d b pc L (vR t :: S) h K :=
  aw_getf0 (ci := 8) (C := RX10) (T := TX10) (N := 7) (k := 6) (q := (0, 6)) dg rfl (by decide) rfl (fun hown hts hnw => Or.inr ⟨"HalfOaths", by rw [hM]; exact va_Nw.use rfl (hnw _ flX4_66)⟩) inX10 rfl ho kk
theorem flX5_9 : Cond.fieldLink RX5 9 RX5 (TX5 0).2.1 (TX5 0).2.2.1 ∈ gw := tm2 52 (by decide +kernel) (by decide +kernel)
theorem gfX5_9 {Γ : Cfg} {l : Launch} {M : MT} {d b pc : Nat} {L S : List AV} {h : HP} {K : Ou → HP → Prop} {t : Int} (hM : M.1 = RX5) (dg : decode M.2.1 pc = .ok (.getfield 9, 3)) (ho : isO h t 4) (kk : AW Γ l M d b (pc + 3) L (vR (h.2.1 t 0) :: S) h K) : AW Γ l M d b pc L (vR t :: S) h K :=
  aw_getf0 (ci := 4) (C := RX5) (T := TX5) (N := 9) (k := 0) (q := (1, 0)) dg rfl (by decide) rfl (fun hown hts hnw => Or.inl (by rw [hM]; exact hts _ flX5_9)) inX5 rfl ho kk
theorem flX5_15 : Cond.fieldLink RX5 15 RX5 (TX5 1).2.1 (TX5 1).2.2.1 ∈ gw := tm2 53 (by decide +kernel) (by decide +kernel)
theorem gfX5_15 {Γ : Cfg} {l : Launch} {M : MT} {d b pc : Nat} {L S : List AV} {h : HP} {K : Ou → HP → Prop} {t : Int} (hM : M.1 = RX5) (dg : decode M.2.1 pc = .ok (.getfield 15, 3)) (ho : isO h t 4) (kk : AW Γ l M d b (pc + 3) L (vR (h.2.1 t 1) :: S) h K) : AW Γ l M d b pc L (vR t :: S) h K :=
  aw_getf0 (ci := 4) (C := RX5) (T := TX5) (N := 9) (k := 1) (q := (1, 1)) dg rfl (by decide) rfl (fun hown hts hnw => Or.inl (by rw [hM]; exact hts _ flX5_15)) inX5 rfl ho kk
theorem flX5_19 : Cond.fieldLink RX5 19 RX5 (TX5 2).2.1 (TX5 2).2.2.1 ∈ gw := tm2 54 (by decide +kernel) (by decide +kernel)
theorem gfX5_19 {Γ : Cfg} {l : Launch} {M : MT} {d b pc : Nat} {L S : List AV} {h : HP} {K : Ou → HP → Prop} {t : Int} (hM : M.1 = RX5) (dg : decode M.2.1 pc = .ok (.getfield 19, 3)) (ho : isO h t 4) (kk : AW Γ l M d b (pc + 3) L (vR (h.2.1 t 2) :: S) h K) : AW Γ l M d b pc L (vR t :: S) h K :=
  aw_getf0 (ci := 4) (C := RX5) (T := TX5) (N := 9) (k := 2) (q := (1, 2)) dg rfl (by decide) rfl (fun hown hts hnw => Or.inl (by rw [hM]; exact hts _ flX5_19)) inX5 rfl ho kk
theorem flX5_22 : Cond.fieldLink RX5 22 RX5 (TX5 3).2.1 (TX5 3).2.2.1 ∈ gw := tm2 55 (by decide +kernel) (by decide +kernel)
theorem gfX5_22 {Γ : Cfg} {l : Launch} {M : MT} {d b pc : Nat} {L S : List AV} {h : HP} {K : Ou → HP → Prop} {t : Int} (hM : M.1 = RX5) (dg : decode M.2.1 pc = .ok (.getfield 22, 3)) (ho : isO h t 4) (kk : AW Γ l M d b (pc + 3) L (vR (h.2.1 t 3) :: S) h K) : AW Γ l M d b pc L (vR t :: S) h K :=
  aw_getf0 (ci := 4) (C := RX5) (T := TX5) (N := 9) (k := 3) (q := (1, 3)) dg rfl (by decide) rfl (fun hown hts hnw => Or.inl (by rw [hM]; exact hts _ flX5_22)) inX5 rfl ho kk
theorem flX5_25 : Cond.fieldLink RX5 25 RX5 (TX5 4).2.1 (TX5 4).2.2.1 ∈ gw := tm2 56 (by decide +kernel) (by decide +kernel)
theorem gfX5_25 {Γ : Cfg} {l : Launch} {M : MT} {d b pc : Nat} {L S : List AV} {h : HP} {K : Ou → HP → Prop} {t : Int} (hM : M.1 = RX5) (dg : decode M.2.1 pc = .ok (.getfield 25, 3)) (ho : isO h t 4) (kk : AW Γ l M d b (pc + 3) L (vR (h.2.1 t 4) :: S) h K) : AW Γ l M d b pc L (vR t :: S) h K :=
  aw_getf0 (ci := 4) (C := RX5) (T := TX5) (N := 9) (k := 4) (q := (1, 4)) dg rfl (by decide) rfl (fun hown hts hnw => Or.inl (by rw [hM]; exact hts _ flX5_25)) inX5 rfl ho kk
theorem flX5_28 : Cond.fieldLink RX5 28 RX5 (TX5 5).2.1 (TX5 5).2.2.1 ∈ gw := tm2 57 (by decide +kernel) (by decide +kernel)
theorem gfX5_28 {Γ : Cfg} {l : Launch} {M : MT} {d b pc : Nat} {L S : List AV} {h : HP} {K : Ou → HP → Prop} {t : Int} (hM : M.1 = RX5) (dg : decode M.2.1 pc = .ok (.getfield 28, 3)) (ho : isO h t 4) (kk : AW Γ l M d b (pc + 3) L (vR (h.2.1 t 5) :: S) h K) : AW Γ l M d b pc L (vR t :: S) h K :=
  aw_getf0 (ci := 4) (C := RX5) (T := TX5) (N := 9) (k := 5) (q := (1, 5)) dg rfl (by decide) rfl (fun hown hts hnw => Or.inl (by rw [hM]; exact hts _ flX5_28)) inX5 rfl ho kk
theorem flX5_31 : Cond.fieldLink RX5 31 RX5 (TX5 6).2.1 (TX5 6).2.2.1 ∈ gw := tm2 59 (by decide +kernel) (by decide +kernel)
theorem gfX5_31 {Γ : Cfg} {l : Launch} {M : MT} {d b pc : Nat} {L S : List AV} {h : HP} {K : Ou → HP → Prop} {t : Int} (hM : M.1 = RX5) (dg : decode M.2.1 pc = .ok (.getfield 31, 3)) (ho : isO h t 4) (kk : AW Γ l M d b (pc + 3) L (vI (h.1 t 6) :: S) h K) : AW Γ l M d b pc L (vR t :: S) h K :=
  aw_getf0 (ci := 4) (C := RX5) (T := TX5) (N := 9) (k := 6) (q := (0, 6)) dg rfl (by decide) rfl (fun hown hts hnw => Or.inl (by rw [hM]; exact hts _ flX5_31)) inX5 rfl ho kk
theorem pfX5_31 {Γ : Cfg} {l : Launch} {M : MT} {d b pc : Nat} {L S : List AV} {h : HP} {K : Ou → HP → Prop} {t x : Int} (hM : M.1 = RX5) (dg : decode M.2.1 pc = .ok (.putfield 31, 3)) (ho : isO h t 4) (kk : AW Γ l M d b (pc + 3) L S (upd2 h.1 t 6 x, h.2) K) : AW Γ l M d b pc L (vI x :: vR t :: S) h K :=
  aw_putf0 (ci := 4) (C := RX5) (T := TX5) (N := 9) (k := 6) (q := (0, 6)) (h' := (upd2 h.1 t 6 x, h.2)) tyX5 dg rfl (by decide) rfl (fun hown hts hnw => Or.inl (by rw [hM]; exact hts _ flX5_31)) inX5 tyX5_ok nmX5 rfl rfl rfl rfl ho (fun t' q => entS_upd q) rfl (flv_upd (ci := 4) (k := 6) (q := (0, 6)) rfl (Or.inl rfl)) kk
theorem flX5_35 : Cond.fieldLink RX5 35 RX5 (TX5 7).2.1 (TX5 7).2.2.1 ∈ gw := tm2 60 (by decide +kernel) (by decide +kernel)
theorem gfX5_35 {Γ : Cfg} {l : Launch} {M : MT} {d b pc : Nat} {L S : List AV} {h : HP} {K : Ou → HP → Prop} {t : Int} (hM : M.1 = RX5) (dg : decode M.2.1 pc = .ok (.getfield 35, 3)) (ho : isO h t 4) (kk : AW Γ l M d b (pc + 3) L (vI (h.1 t 7) :: S) h K) : AW Γ l M d b pc L (vR t :: S) h K :=
  aw_getf0 (ci := 4) (C := RX5) (T := TX5) (N := 9) (k := 7) (q := (0, 7)) dg rfl (by decide) rfl (fun hown hts hnw => Or.inl (by rw [hM]; exact hts _ flX5_35)) inX5 rfl ho kk
theorem pfX5_35 {Γ : Cfg} {l : Launch} {M : MT} {d b pc : Nat} {L S : List AV} {h : HP} {K : Ou → HP → Prop} {t x : Int} (hM : M.1 = RX5) (dg : decode M.2.1 pc = .ok (.putfield 35, 3)) (ho : isO h t 4) (kk : AW Γ l M d b (pc + 3) L S (upd2 h.1 t 7 x, h.2) K) : AW Γ l M d b pc L (vI x :: vR t :: S) h K :=
  aw_putf0 (ci := 4) (C := RX5) (T := TX5) (N := 9) (k := 7) (q := (0, 7)) (h' := (upd2 h.1 t 7 x, h.2)) tyX5 dg rfl (by decide) rfl (fun hown hts hnw => Or.inl (by rw [hM]; exact hts _ flX5_35)) inX5 tyX5_ok nmX5 rfl rfl rfl rfl ho (fun t' q => entS_upd q) rfl (flv_upd (ci := 4) (k := 7) (q := (0, 7)) rfl (Or.inl rfl)) kk
theorem flX5_38 : Cond.fieldLink RX5 38 RX5 (TX5 8).2.1 (TX5 8).2.2.1 ∈ gw := tm2 62 (by decide +kernel) (by decide +kernel)
theorem gfX5_38 {Γ : Cfg} {l : Launch} {M : MT} {d b pc : Nat} {L S : List AV} {h : HP} {K : Ou → HP → Prop} {t : Int} (hM : M.1 = RX5) (dg : decode M.2.1 pc = .ok (.getfield 38, 3)) (ho : isO h t 4) (kk : AW Γ l M d b (pc + 3) L (vI (h.1 t 8) :: S) h K) : AW Γ l M d b pc L (vR t :: S) h K :=
  aw_getf0 (ci := 4) (C := RX5) (T := TX5) (N := 9) (k := 8) (q := (0, 8)) dg rfl (by decide) rfl (fun hown hts hnw => Or.inl (by rw [hM]; exact hts _ flX5_38)) inX5 rfl ho kk
theorem pfX5_38 {Γ : Cfg} {l : Launch} {M : MT} {d b pc : Nat} {L S : List AV} {h : HP} {K : Ou → HP → Prop} {t x : Int} (hM : M.1 = RX5) (dg : decode M.2.1 pc = .ok (.putfield 38, 3)) (ho : isO h t 4) (kk : AW Γ l M d b (pc + 3) L S (upd2 h.1 t 8 x, h.2) K) : AW Γ l M d b pc L (vI x :: vR t :: S) h K :=
  aw_putf0 (ci := 4) (C := RX5) (T := TX5) (N := 9) (k := 8) (q := (0, 8)) (h' := (upd2 h.1 t 8 x, h.2)) tyX5 dg rfl (by decide) rfl (fun hown hts hnw => Or.inl (by rw [hM]; exact hts _ flX5_38)) inX5 tyX5_ok nmX5 rfl rfl rfl rfl ho (fun t' q => entS_upd q) rfl (flv_upd (ci := 4) (k := 8) (q := (0, 8)) rfl (Or.inl rfl)) kk
theorem flX5_49 : Cond.fieldLinkNest RX5 49 RX2 (TX2 1).2.1 (TX2 1).2.2.1 "HalfOaths" ∈ nw := tn1 102 (by decide +kernel) (by decide +kernel)
theorem gfX5_49 {Γ : Cfg} {l : Launch} {M : MT} {d b pc : Nat} {L S : List AV} {h : HP} {K : Ou → HP → Prop} {t : Int} (hM : M.1 = RX5) (dg : decode M.2.1 pc = .ok (.getfield 49, 3)) (ho : isO h t 2) (kk : AW Γ l M d b (pc + 3) L (vR (h.2.1 t 1) :: S) h K) : AW Γ l M d b pc L (vR t :: S) h K :=
  aw_getf0 (ci := 2) (C := RX2) (T := TX2) (N := 15) (k := 1) (q := (1, 1)) dg rfl (by decide) rfl (fun hown hts hnw => Or.inr ⟨"HalfOaths", by rw [hM]; exact va_Nw.use rfl (hnw _ flX5_49)⟩) inX2 rfl ho kk
theorem flX5_84 : Cond.fieldLinkNest RX5 84 RX2 (TX2 6).2.1 (TX2 6).2.2.1 "HalfOaths" ∈ nw := tn1 123 (by decide +kernel) (by decide +kernel)
theorem gfX5_84 {Γ : Cfg} {l : Launch} {M : MT} {d b pc : Nat} {L S : List AV} {h : HP} {K : Ou → HP → Prop} {t : Int} (hM : M.1 = RX5) (dg : decode M.2.1 pc = .ok (.getfield 84, 3)) (ho : isO h t 2) (kk : AW Γ l M d b (pc + 3) L (vR (h.2.1 t 6) :: S) h K) : AW Γ l M d b pc L (vR t :: S) h K :=
  aw_getf0 (ci := 2) (C := RX2) (T := TX2) (N := 15) (k := 6) (q := (1, 6)) dg rfl (by decide) rfl (fun hown hts hnw => Or.inr ⟨"HalfOaths", by rw [hM]; exact va_Nw.use rfl (hnw _ flX5_84)⟩) inX2 rfl ho kk
theorem flX6_9 : Cond.fieldLink RX6 9 RX6 (TX6 0).2.1 (TX6 0).2.2.1 ∈ gw := tm2 89 (by decide +kernel) (by decide +kernel)
theorem gfX6_9 {Γ : Cfg} {l : Launch} {M : MT} {d b pc : Nat} {L S : List AV} {h : HP} {K : Ou → HP → Prop} {t : Int} (hM : M.1 = RX6) (dg : decode M.2.1 pc = .ok (.getfield 9, 3)) (ho : isO h t 5) (kk : AW Γ l M d b (pc + 3) L (vR (h.2.1 t 0) :: S) h K) : AW Γ l M d b pc L (vR t :: S) h K :=
  aw_getf0 (ci := 5) (C := RX6) (T := TX6) (N := 3) (k := 0) (q := (1, 0)) dg rfl (by decide) rfl (fun hown hts hnw => Or.inl (by rw [hM]; exact hts _ flX6_9)) inX6 rfl ho kk
theorem flX6_15 : Cond.fieldLink RX6 15 RX6 (TX6 1).2.1 (TX6 1).2.2.1 ∈ gw := tm2 90 (by decide +kernel) (by decide +kernel)
theorem gfX6_15 {Γ : Cfg} {l : Launch} {M : MT} {d b pc : Nat} {L S : List AV} {h : HP} {K : Ou → HP → Prop} {t : Int} (hM : M.1 = RX6) (dg : decode M.2.1 pc = .ok (.getfield 15, 3)) (ho : isO h t 5) (kk : AW Γ l M d b (pc + 3) L (vR (h.2.1 t 1) :: S) h K) : AW Γ l M d b pc L (vR t :: S) h K :=
  aw_getf0 (ci := 5) (C := RX6) (T := TX6) (N := 3) (k := 1) (q := (1, 1)) dg rfl (by decide) rfl (fun hown hts hnw => Or.inl (by rw [hM]; exact hts _ flX6_15)) inX6 rfl ho kk
theorem flX6_18 : Cond.fieldLink RX6 18 RX6 (TX6 2).2.1 (TX6 2).2.2.1 ∈ gw := tm2 92 (by decide +kernel) (by decide +kernel)
theorem gfX6_18 {Γ : Cfg} {l : Launch} {M : MT} {d b pc : Nat} {L S : List AV} {h : HP} {K : Ou → HP → Prop} {t : Int} (hM : M.1 = RX6) (dg : decode M.2.1 pc = .ok (.getfield 18, 3)) (ho : isO h t 5) (kk : AW Γ l M d b (pc + 3) L (vI (h.1 t 2) :: S) h K) : AW Γ l M d b pc L (vR t :: S) h K :=
  aw_getf0 (ci := 5) (C := RX6) (T := TX6) (N := 3) (k := 2) (q := (0, 2)) dg rfl (by decide) rfl (fun hown hts hnw => Or.inl (by rw [hM]; exact hts _ flX6_18)) inX6 rfl ho kk
theorem pfX6_18 {Γ : Cfg} {l : Launch} {M : MT} {d b pc : Nat} {L S : List AV} {h : HP} {K : Ou → HP → Prop} {t x : Int} (hM : M.1 = RX6) (dg : decode M.2.1 pc = .ok (.putfield 18, 3)) (ho : isO h t 5) (kk : AW Γ l M d b (pc + 3) L S (upd2 h.1 t 2 x, h.2) K) : AW Γ l M d b pc L (vI x :: vR t :: S) h K :=
  aw_putf0 (ci := 5) (C := RX6) (T := TX6) (N := 3) (k := 2) (q := (0, 2)) (h' := (upd2 h.1 t 2 x, h.2)) tyX6 dg rfl (by decide) rfl (fun hown hts hnw => Or.inl (by rw [hM]; exact hts _ flX6_18)) inX6 tyX6_ok nmX6 rfl rfl rfl rfl ho (fun t' q => entS_upd q) rfl (flv_upd (ci := 5) (k := 2) (q := (0, 2)) rfl (Or.inl rfl)) kk
theorem flX6_30 : Cond.fieldLinkNest RX6 30 RX2 (TX2 8).2.1 (TX2 8).2.2.1 "HalfOaths" ∈ nw := tn1 129 (by decide +kernel) (by decide +kernel)
theorem gfX6_30 {Γ : Cfg} {l : Launch} {M : MT} {d b pc : Nat} {L S : List AV} {h : HP} {K : Ou → HP → Prop} {t : Int} (hM : M.1 = RX6) (dg : decode M.2.1 pc = .ok (.getfield 30, 3)) (ho : isO h t 2) (kk : AW Γ l M d b (pc + 3) L (vI (h.1 t 8) :: S) h K) : AW Γ l M d b pc L (vR t :: S) h K :=
  aw_getf0 (ci := 2) (C := RX2) (T := TX2) (N := 15) (k := 8) (q := (0, 8)) dg rfl (by decide) rfl (fun hown hts hnw => Or.inr ⟨"HalfOaths", by rw [hM]; exact va_Nw.use rfl (hnw _ flX6_30)⟩) inX2 rfl ho kk
theorem flX7_9 : Cond.fieldLink RX7 9 RX7 (TX7 0).2.1 (TX7 0).2.2.1 ∈ gw := tm2 21 (by decide +kernel) (by decide +kernel)
theorem gfX7_9 {Γ : Cfg} {l : Launch} {M : MT} {d b pc : Nat} {L S : List AV} {h : HP} {K : Ou → HP → Prop} {t : Int} (hM : M.1 = RX7) (dg : decode M.2.1 pc = .ok (.getfield 9, 3)) (ho : isO h t 6) (kk : AW Γ l M d b (pc + 3) L (vR (h.2.1 t 0) :: S) h K) : AW Γ l M d b pc L (vR t :: S) h K :=
  aw_getf0 (ci := 6) (C := RX7) (T := TX7) (N := 4) (k := 0) (q := (1, 0)) dg rfl (by decide) rfl (fun hown hts hnw => Or.inl (by rw [hM]; exact hts _ flX7_9)) inX7 rfl ho kk
theorem flX7_18 : Cond.fieldLink RX7 18 RX7 (TX7 1).2.1 (TX7 1).2.2.1 ∈ gw := tm2 22 (by decide +kernel) (by decide +kernel)
theorem gfX7_18 {Γ : Cfg} {l : Launch} {M : MT} {d b pc : Nat} {L S : List AV} {h : HP} {K : Ou → HP → Prop} {t : Int} (hM : M.1 = RX7) (dg : decode M.2.1 pc = .ok (.getfield 18, 3)) (ho : isO h t 6) (kk : AW Γ l M d b (pc + 3) L (vR (h.2.1 t 1) :: S) h K) : AW Γ l M d b pc L (vR t :: S) h K :=
  aw_getf0 (ci := 6) (C := RX7) (T := TX7) (N := 4) (k := 1) (q := (1, 1)) dg rfl (by decide) rfl (fun hown hts hnw => Or.inl (by rw [hM]; exact hts _ flX7_18)) inX7 rfl ho kk
theorem flX7_22 : Cond.fieldLink RX7 22 RX7 (TX7 2).2.1 (TX7 2).2.2.1 ∈ gw := tm2 23 (by decide +kernel) (by decide +kernel)
theorem gfX7_22 {Γ : Cfg} {l : Launch} {M : MT} {d b pc : Nat} {L S : List AV} {h : HP} {K : Ou → HP → Prop} {t : Int} (hM : M.1 = RX7) (dg : decode M.2.1 pc = .ok (.getfield 22, 3)) (ho : isO h t 6) (kk : AW Γ l M d b (pc + 3) L (vR (h.2.1 t 2) :: S) h K) : AW Γ l M d b pc L (vR t :: S) h K :=
  aw_getf0 (ci := 6) (C := RX7) (T := TX7) (N := 4) (k := 2) (q := (1, 2)) dg rfl (by decide) rfl (fun hown hts hnw => Or.inl (by rw [hM]; exact hts _ flX7_22)) inX7 rfl ho kk
theorem flX7_26 : Cond.fieldLink RX7 26 RX7 (TX7 3).2.1 (TX7 3).2.2.1 ∈ gw := tm2 24 (by decide +kernel) (by decide +kernel)
theorem gfX7_26 {Γ : Cfg} {l : Launch} {M : MT} {d b pc : Nat} {L S : List AV} {h : HP} {K : Ou → HP → Prop} {t : Int} (hM : M.1 = RX7) (dg : decode M.2.1 pc = .ok (.getfield 26, 3)) (ho : isO h t 6) (kk : AW Γ l M d b (pc + 3) L (vR (h.2.1 t 3) :: S) h K) : AW Γ l M d b pc L (vR t :: S) h K :=
  aw_getf0 (ci := 6) (C := RX7) (T := TX7) (N := 4) (k := 3) (q := (1, 3)) dg rfl (by decide) rfl (fun hown hts hnw => Or.inl (by rw [hM]; exact hts _ flX7_26)) inX7 rfl ho kk
theorem flX7_29 : Cond.fieldLinkNest RX7 29 RX0 (TX0 1).2.1 (TX0 1).2.2.1 "HalfOaths" ∈ nw := tn1 231 (by decide +kernel) (by decide +kernel)
theorem gfX7_29 {Γ : Cfg} {l : Launch} {M : MT} {d b pc : Nat} {L S : List AV} {h : HP} {K : Ou → HP → Prop} {t : Int} (hM : M.1 = RX7) (dg : decode M.2.1 pc = .ok (.getfield 29, 3)) (ho : isO h t 0) (kk : AW Γ l M d b (pc + 3) L (vR (h.2.1 t 1) :: S) h K) : AW Γ l M d b pc L (vR t :: S) h K :=
  aw_getf0 (ci := 0) (C := RX0) (T := TX0) (N := 8) (k := 1) (q := (1, 1)) dg rfl (by decide) rfl (fun hown hts hnw => Or.inr ⟨"HalfOaths", by rw [hM]; exact va_Nw.use rfl (hnw _ flX7_29)⟩) inX0 rfl ho kk
theorem flX7_32 : Cond.fieldLinkNest RX7 32 RX0 (TX0 0).2.1 (TX0 0).2.2.1 "HalfOaths" ∈ nw := tn1 230 (by decide +kernel) (by decide +kernel)
theorem gfX7_32 {Γ : Cfg} {l : Launch} {M : MT} {d b pc : Nat} {L S : List AV} {h : HP} {K : Ou → HP → Prop} {t : Int} (hM : M.1 = RX7) (dg : decode M.2.1 pc = .ok (.getfield 32, 3)) (ho : isO h t 0) (kk : AW Γ l M d b (pc + 3) L (vR (h.2.1 t 0) :: S) h K) : AW Γ l M d b pc L (vR t :: S) h K :=
  aw_getf0 (ci := 0) (C := RX0) (T := TX0) (N := 8) (k := 0) (q := (1, 0)) dg rfl (by decide) rfl (fun hown hts hnw => Or.inr ⟨"HalfOaths", by rw [hM]; exact va_Nw.use rfl (hnw _ flX7_32)⟩) inX0 rfl ho kk
theorem flX7_35 : Cond.fieldLinkNest RX7 35 RX2 (TX2 0).2.1 (TX2 0).2.2.1 "HalfOaths" ∈ nw := tn1 98 (by decide +kernel) (by decide +kernel)
theorem gfX7_35 {Γ : Cfg} {l : Launch} {M : MT} {d b pc : Nat} {L S : List AV} {h : HP} {K : Ou → HP → Prop} {t : Int} (hM : M.1 = RX7) (dg : decode M.2.1 pc = .ok (.getfield 35, 3)) (ho : isO h t 2) (kk : AW Γ l M d b (pc + 3) L (vR (h.2.1 t 0) :: S) h K) : AW Γ l M d b pc L (vR t :: S) h K :=
  aw_getf0 (ci := 2) (C := RX2) (T := TX2) (N := 15) (k := 0) (q := (1, 0)) dg rfl (by decide) rfl (fun hown hts hnw => Or.inr ⟨"HalfOaths", by rw [hM]; exact va_Nw.use rfl (hnw _ flX7_35)⟩) inX2 rfl ho kk
theorem flX7_40 : Cond.fieldLinkNest RX7 40 RX2 (TX2 6).2.1 (TX2 6).2.2.1 "HalfOaths" ∈ nw := tn1 121 (by decide +kernel) (by decide +kernel)
theorem gfX7_40 {Γ : Cfg} {l : Launch} {M : MT} {d b pc : Nat} {L S : List AV} {h : HP} {K : Ou → HP → Prop} {t : Int} (hM : M.1 = RX7) (dg : decode M.2.1 pc = .ok (.getfield 40, 3)) (ho : isO h t 2) (kk : AW Γ l M d b (pc + 3) L (vR (h.2.1 t 6) :: S) h K) : AW Γ l M d b pc L (vR t :: S) h K :=
  aw_getf0 (ci := 2) (C := RX2) (T := TX2) (N := 15) (k := 6) (q := (1, 6)) dg rfl (by decide) rfl (fun hown hts hnw => Or.inr ⟨"HalfOaths", by rw [hM]; exact va_Nw.use rfl (hnw _ flX7_40)⟩) inX2 rfl ho kk
theorem flX7_47 : Cond.fieldLinkNest RX7 47 RX2 (TX2 1).2.1 (TX2 1).2.2.1 "HalfOaths" ∈ nw := tn1 101 (by decide +kernel) (by decide +kernel)
theorem gfX7_47 {Γ : Cfg} {l : Launch} {M : MT} {d b pc : Nat} {L S : List AV} {h : HP} {K : Ou → HP → Prop} {t : Int} (hM : M.1 = RX7) (dg : decode M.2.1 pc = .ok (.getfield 47, 3)) (ho : isO h t 2) (kk : AW Γ l M d b (pc + 3) L (vR (h.2.1 t 1) :: S) h K) : AW Γ l M d b pc L (vR t :: S) h K :=
  aw_getf0 (ci := 2) (C := RX2) (T := TX2) (N := 15) (k := 1) (q := (1, 1)) dg rfl (by decide) rfl (fun hown hts hnw => Or.inr ⟨"HalfOaths", by rw [hM]; exact va_Nw.use rfl (hnw _ flX7_47)⟩) inX2 rfl ho kk
theorem flX7_69 : Cond.fieldLinkNest RX7 69 RX0 (TX0 7).2.1 (TX0 7).2.2.1 "HalfOaths" ∈ nw := tn2 3 (by decide +kernel) (by decide +kernel)
theorem gfX7_69 {Γ : Cfg} {l : Launch} {M : MT} {d b pc : Nat} {L S : List AV} {h : HP} {K : Ou → HP → Prop} {t : Int} (hM : M.1 = RX7) (dg : decode M.2.1 pc = .ok (.getfield 69, 3)) (ho : isO h t 0) (kk : AW Γ l M d b (pc + 3) L (vI (h.1 t 7) :: S) h K) : AW Γ l M d b pc L (vR t :: S) h K :=
  aw_getf0 (ci := 0) (C := RX0) (T := TX0) (N := 8) (k := 7) (q := (0, 7)) dg rfl (by decide) rfl (fun hown hts hnw => Or.inr ⟨"HalfOaths", by rw [hM]; exact va_Nw.use rfl (hnw _ flX7_69)⟩) inX0 rfl ho kk
theorem pfX7_69 {Γ : Cfg} {l : Launch} {M : MT} {d b pc : Nat} {L S : List AV} {h : HP} {K : Ou → HP → Prop} {t x : Int} (hM : M.1 = RX7) (dg : decode M.2.1 pc = .ok (.putfield 69, 3)) (ho : isO h t 0) (kk : AW Γ l M d b (pc + 3) L S (upd2 h.1 t 7 x, h.2) K) : AW Γ l M d b pc L (vI x :: vR t :: S) h K :=
  aw_putf0 (ci := 0) (C := RX0) (T := TX0) (N := 8) (k := 7) (q := (0, 7)) (h' := (upd2 h.1 t 7 x, h.2)) tyX0 dg rfl (by decide) rfl (fun hown hts hnw => Or.inr ⟨"HalfOaths", by rw [hM]; exact va_Nw.use rfl (hnw _ flX7_69)⟩) inX0 tyX0_ok nmX0 rfl rfl rfl rfl ho (fun t' q => entS_upd q) rfl (flv_upd (ci := 0) (k := 7) (q := (0, 7)) rfl (Or.inl rfl)) kk
theorem flX7_77 : Cond.fieldLinkNest RX7 77 RX0 (TX0 2).2.1 (TX0 2).2.2.1 "HalfOaths" ∈ nw := tn1 233 (by decide +kernel) (by decide +kernel)
theorem gfX7_77 {Γ : Cfg} {l : Launch} {M : MT} {d b pc : Nat} {L S : List AV} {h : HP} {K : Ou → HP → Prop} {t : Int} (hM : M.1 = RX7) (dg : decode M.2.1 pc = .ok (.getfield 77, 3)) (ho : isO h t 0) (kk : AW Γ l M d b (pc + 3) L (vI (h.1 t 2) :: S) h K) : AW Γ l M d b pc L (vR t :: S) h K :=
  aw_getf0 (ci := 0) (C := RX0) (T := TX0) (N := 8) (k := 2) (q := (0, 2)) dg rfl (by decide) rfl (fun hown hts hnw => Or.inr ⟨"HalfOaths", by rw [hM]; exact va_Nw.use rfl (hnw _ flX7_77)⟩) inX0 rfl ho kk
theorem flX7_80 : Cond.fieldLinkNest RX7 80 RX0 (TX0 3).2.1 (TX0 3).2.2.1 "HalfOaths" ∈ nw := tn1 235 (by decide +kernel) (by decide +kernel)
theorem gfX7_80 {Γ : Cfg} {l : Launch} {M : MT} {d b pc : Nat} {L S : List AV} {h : HP} {K : Ou → HP → Prop} {t : Int} (hM : M.1 = RX7) (dg : decode M.2.1 pc = .ok (.getfield 80, 3)) (ho : isO h t 0) (kk : AW Γ l M d b (pc + 3) L (vI (h.1 t 3) :: S) h K) : AW Γ l M d b pc L (vR t :: S) h K :=
  aw_getf0 (ci := 0) (C := RX0) (T := TX0) (N := 8) (k := 3) (q := (0, 3)) dg rfl (by decide) rfl (fun hown hts hnw => Or.inr ⟨"HalfOaths", by rw [hM]; exact va_Nw.use rfl (hnw _ flX7_80)⟩) inX0 rfl ho kk
theorem flX7_83 : Cond.fieldLinkNest RX7 83 RX0 (TX0 4).2.1 (TX0 4).2.2.1 "HalfOaths" ∈ nw := tn1 237 (by decide +kernel) (by decide +kernel)
theorem gfX7_83 {Γ : Cfg} {l : Launch} {M : MT} {d b pc : Nat} {L S : List AV} {h : HP} {K : Ou → HP → Prop} {t : Int} (hM : M.1 = RX7) (dg : decode M.2.1 pc = .ok (.getfield 83, 3)) (ho : isO h t 0) (kk : AW Γ l M d b (pc + 3) L (vI (h.1 t 4) :: S) h K) : AW Γ l M d b pc L (vR t :: S) h K :=
  aw_getf0 (ci := 0) (C := RX0) (T := TX0) (N := 8) (k := 4) (q := (0, 4)) dg rfl (by decide) rfl (fun hown hts hnw => Or.inr ⟨"HalfOaths", by rw [hM]; exact va_Nw.use rfl (hnw _ flX7_83)⟩) inX0 rfl ho kk
theorem flX7_92 : Cond.fieldLinkNest RX7 92 RX0 (TX0 5).2.1 (TX0 5).2.2.1 "HalfOaths" ∈ nw := tn1 239 (by decide +kernel) (by decide +kernel)
theorem gfX7_92 {Γ : Cfg} {l : Launch} {M : MT} {d b pc : Nat} {L S : List AV} {h : HP} {K : Ou → HP → Prop} {t : Int} (hM : M.1 = RX7) (dg : decode M.2.1 pc = .ok (.getfield 92, 3)) (ho : isO h t 0) (kk : AW Γ l M d b (pc + 3) L (vI (h.1 t 5) :: S) h K) : AW Γ l M d b pc L (vR t :: S) h K :=
  aw_getf0 (ci := 0) (C := RX0) (T := TX0) (N := 8) (k := 5) (q := (0, 5)) dg rfl (by decide) rfl (fun hown hts hnw => Or.inr ⟨"HalfOaths", by rw [hM]; exact va_Nw.use rfl (hnw _ flX7_92)⟩) inX0 rfl ho kk
theorem flX7_95 : Cond.fieldLinkNest RX7 95 RX0 (TX0 6).2.1 (TX0 6).2.2.1 "HalfOaths" ∈ nw := tn2 1 (by decide +kernel) (by decide +kernel)
theorem gfX7_95 {Γ : Cfg} {l : Launch} {M : MT} {d b pc : Nat} {L S : List AV} {h : HP} {K : Ou → HP → Prop} {t : Int} (hM : M.1 = RX7) (dg : decode M.2.1 pc = .ok (.getfield 95, 3)) (ho : isO h t 0) (kk : AW Γ l M d b (pc + 3) L (vI (h.1 t 6) :: S) h K) : AW Γ l M d b pc L (vR t :: S) h K :=
  aw_getf0 (ci := 0) (C := RX0) (T := TX0) (N := 8) (k := 6) (q := (0, 6)) dg rfl (by decide) rfl (fun hown hts hnw => Or.inr ⟨"HalfOaths", by rw [hM]; exact va_Nw.use rfl (hnw _ flX7_95)⟩) inX0 rfl ho kk
theorem flX7_107 : Cond.fieldLinkNest RX7 107 RX4 (TX4 5).2.1 (TX4 5).2.2.1 "HalfOaths" ∈ nw := tn1 195 (by decide +kernel) (by decide +kernel)
theorem gfX7_107 {Γ : Cfg} {l : Launch} {M : MT} {d b pc : Nat} {L S : List AV} {h : HP} {K : Ou → HP → Prop} {t : Int} (hM : M.1 = RX7) (dg : decode M.2.1 pc = .ok (.getfield 107, 3)) (ho : isO h t 3) (kk : AW Γ l M d b (pc + 3) L (vI (h.1 t 5) :: S) h K) : AW Γ l M d b pc L (vR t :: S) h K :=
  aw_getf0 (ci := 3) (C := RX4) (T := TX4) (N := 8) (k := 5) (q := (0, 5)) dg rfl (by decide) rfl (fun hown hts hnw => Or.inr ⟨"HalfOaths", by rw [hM]; exact va_Nw.use rfl (hnw _ flX7_107)⟩) inX4 rfl ho kk
theorem flX7_110 : Cond.fieldLinkNest RX7 110 RX4 (TX4 6).2.1 (TX4 6).2.2.1 "HalfOaths" ∈ nw := tn1 197 (by decide +kernel) (by decide +kernel)
theorem gfX7_110 {Γ : Cfg} {l : Launch} {M : MT} {d b pc : Nat} {L S : List AV} {h : HP} {K : Ou → HP → Prop} {t : Int} (hM : M.1 = RX7) (dg : decode M.2.1 pc = .ok (.getfield 110, 3)) (ho : isO h t 3) (kk : AW Γ l M d b (pc + 3) L (vI (h.1 t 6) :: S) h K) : AW Γ l M d b pc L (vR t :: S) h K :=
  aw_getf0 (ci := 3) (C := RX4) (T := TX4) (N := 8) (k := 6) (q := (0, 6)) dg rfl (by decide) rfl (fun hown hts hnw => Or.inr ⟨"HalfOaths", by rw [hM]; exact va_Nw.use rfl (hnw _ flX7_110)⟩) inX4 rfl ho kk
theorem flX7_119 : Cond.fieldLinkNest RX7 119 RX4 (TX4 7).2.1 (TX4 7).2.2.1 "HalfOaths" ∈ nw := tn1 199 (by decide +kernel) (by decide +kernel)
theorem gfX7_119 {Γ : Cfg} {l : Launch} {M : MT} {d b pc : Nat} {L S : List AV} {h : HP} {K : Ou → HP → Prop} {t : Int} (hM : M.1 = RX7) (dg : decode M.2.1 pc = .ok (.getfield 119, 3)) (ho : isO h t 3) (kk : AW Γ l M d b (pc + 3) L (vI (h.1 t 7) :: S) h K) : AW Γ l M d b pc L (vR t :: S) h K :=
  aw_getf0 (ci := 3) (C := RX4) (T := TX4) (N := 8) (k := 7) (q := (0, 7)) dg rfl (by decide) rfl (fun hown hts hnw => Or.inr ⟨"HalfOaths", by rw [hM]; exact va_Nw.use rfl (hnw _ flX7_119)⟩) inX4 rfl ho kk
theorem flX9_9 : Cond.fieldLink RX9 9 RX9 (TX9 0).2.1 (TX9 0).2.2.1 ∈ gw := tm1 44 (by decide +kernel) (by decide +kernel)
theorem gfX9_9 {Γ : Cfg} {l : Launch} {M : MT} {d b pc : Nat} {L S : List AV} {h : HP} {K : Ou → HP → Prop} {t : Int} (hM : M.1 = RX9) (dg : decode M.2.1 pc = .ok (.getfield 9, 3)) (ho : isO h t 7) (kk : AW Γ l M d b (pc + 3) L (vR (h.2.1 t 0) :: S) h K) : AW Γ l M d b pc L (vR t :: S) h K :=
  aw_getf0 (ci := 7) (C := RX9) (T := TX9) (N := 2) (k := 0) (q := (1, 0)) dg rfl (by decide) rfl (fun hown hts hnw => Or.inl (by rw [hM]; exact hts _ flX9_9)) inX9 rfl ho kk
theorem flX9_15 : Cond.fieldLink RX9 15 RX9 (TX9 1).2.1 (TX9 1).2.2.1 ∈ gw := tm1 46 (by decide +kernel) (by decide +kernel)
theorem gfX9_15 {Γ : Cfg} {l : Launch} {M : MT} {d b pc : Nat} {L S : List AV} {h : HP} {K : Ou → HP → Prop} {t : Int} (hM : M.1 = RX9) (dg : decode M.2.1 pc = .ok (.getfield 15, 3)) (ho : isO h t 7) (kk : AW Γ l M d b (pc + 3) L (vI (h.1 t 1) :: S) h K) : AW Γ l M d b pc L (vR t :: S) h K :=
  aw_getf0 (ci := 7) (C := RX9) (T := TX9) (N := 2) (k := 1) (q := (0, 1)) dg rfl (by decide) rfl (fun hown hts hnw => Or.inl (by rw [hM]; exact hts _ flX9_15)) inX9 rfl ho kk
theorem pfX9_15 {Γ : Cfg} {l : Launch} {M : MT} {d b pc : Nat} {L S : List AV} {h : HP} {K : Ou → HP → Prop} {t x : Int} (hM : M.1 = RX9) (dg : decode M.2.1 pc = .ok (.putfield 15, 3)) (ho : isO h t 7) (kk : AW Γ l M d b (pc + 3) L S (upd2 h.1 t 1 x, h.2) K) : AW Γ l M d b pc L (vI x :: vR t :: S) h K :=
  aw_putf0 (ci := 7) (C := RX9) (T := TX9) (N := 2) (k := 1) (q := (0, 1)) (h' := (upd2 h.1 t 1 x, h.2)) tyX9 dg rfl (by decide) rfl (fun hown hts hnw => Or.inl (by rw [hM]; exact hts _ flX9_15)) inX9 tyX9_ok nmX9 rfl rfl rfl rfl ho (fun t' q => entS_upd q) rfl (flv_upd (ci := 7) (k := 1) (q := (0, 1)) rfl (Or.inl rfl)) kk
theorem flX10_11 : Cond.fieldLink RX10 11 RX10 (TX10 0).2.1 (TX10 0).2.2.1 ∈ gw := tm1 64 (by decide +kernel) (by decide +kernel)
theorem gfX10_11 {Γ : Cfg} {l : Launch} {M : MT} {d b pc : Nat} {L S : List AV} {h : HP} {K : Ou → HP → Prop} {t : Int} (hM : M.1 = RX10) (dg : decode M.2.1 pc = .ok (.getfield 11, 3)) (ho : isO h t 8) (kk : AW Γ l M d b (pc + 3) L (vR (h.2.1 t 0) :: S) h K) : AW Γ l M d b pc L (vR t :: S) h K :=
  aw_getf0 (ci := 8) (C := RX10) (T := TX10) (N := 7) (k := 0) (q := (1, 0)) dg rfl (by decide) rfl (fun hown hts hnw => Or.inl (by rw [hM]; exact hts _ flX10_11)) inX10 rfl ho kk
theorem flX10_17 : Cond.fieldLink RX10 17 RX10 (TX10 1).2.1 (TX10 1).2.2.1 ∈ gw := tm1 65 (by decide +kernel) (by decide +kernel)
theorem gfX10_17 {Γ : Cfg} {l : Launch} {M : MT} {d b pc : Nat} {L S : List AV} {h : HP} {K : Ou → HP → Prop} {t : Int} (hM : M.1 = RX10) (dg : decode M.2.1 pc = .ok (.getfield 17, 3)) (ho : isO h t 8) (kk : AW Γ l M d b (pc + 3) L (vR (h.2.1 t 1) :: S) h K) : AW Γ l M d b pc L (vR t :: S) h K :=
  aw_getf0 (ci := 8) (C := RX10) (T := TX10) (N := 7) (k := 1) (q := (1, 1)) dg rfl (by decide) rfl (fun hown hts hnw => Or.inl (by rw [hM]; exact hts _ flX10_17)) inX10 rfl ho kk
theorem flX10_21 : Cond.fieldLink RX10 21 RX10 (TX10 2).2.1 (TX10 2).2.2.1 ∈ gw := tm1 66 (by decide +kernel) (by decide +kernel)
theorem gfX10_21 {Γ : Cfg} {l : Launch} {M : MT} {d b pc : Nat} {L S : List AV} {h : HP} {K : Ou → HP → Prop} {t : Int} (hM : M.1 = RX10) (dg : decode M.2.1 pc = .ok (.getfield 21, 3)) (ho : isO h t 8) (kk : AW Γ l M d b (pc + 3) L (vR (h.2.1 t 2) :: S) h K) : AW Γ l M d b pc L (vR t :: S) h K :=
  aw_getf0 (ci := 8) (C := RX10) (T := TX10) (N := 7) (k := 2) (q := (1, 2)) dg rfl (by decide) rfl (fun hown hts hnw => Or.inl (by rw [hM]; exact hts _ flX10_21)) inX10 rfl ho kk
theorem flX10_24 : Cond.fieldLink RX10 24 RX10 (TX10 3).2.1 (TX10 3).2.2.1 ∈ gw := tm1 67 (by decide +kernel) (by decide +kernel)
theorem gfX10_24 {Γ : Cfg} {l : Launch} {M : MT} {d b pc : Nat} {L S : List AV} {h : HP} {K : Ou → HP → Prop} {t : Int} (hM : M.1 = RX10) (dg : decode M.2.1 pc = .ok (.getfield 24, 3)) (ho : isO h t 8) (kk : AW Γ l M d b (pc + 3) L (vI (h.1 t 3) :: S) h K) : AW Γ l M d b pc L (vR t :: S) h K :=
  aw_getf0 (ci := 8) (C := RX10) (T := TX10) (N := 7) (k := 3) (q := (0, 3)) dg rfl (by decide) rfl (fun hown hts hnw => Or.inl (by rw [hM]; exact hts _ flX10_24)) inX10 rfl ho kk
theorem pfX10_24 {Γ : Cfg} {l : Launch} {M : MT} {d b pc : Nat} {L S : List AV} {h : HP} {K : Ou → HP → Prop} {t x : Int} (hM : M.1 = RX10) (dg : decode M.2.1 pc = .ok (.putfield 24, 3)) (ho : isO h t 8) (kk : AW Γ l M d b (pc + 3) L S (upd2 h.1 t 3 x, h.2) K) : AW Γ l M d b pc L (vI x :: vR t :: S) h K :=
  aw_putf0 (ci := 8) (C := RX10) (T := TX10) (N := 7) (k := 3) (q := (0, 3)) (h' := (upd2 h.1 t 3 x, h.2)) tyX10 dg rfl (by decide) rfl (fun hown hts hnw => Or.inl (by rw [hM]; exact hts _ flX10_24)) inX10 tyX10_ok nmX10 rfl rfl rfl rfl ho (fun t' q => entS_upd q) rfl (flv_upd (ci := 8) (k := 3) (q := (0, 3)) rfl (Or.inl rfl)) kk
theorem flX10_32 : Cond.fieldLink RX10 32 RX10 (TX10 4).2.1 (TX10 4).2.2.1 ∈ gw := tm1 68 (by decide +kernel) (by decide +kernel)
theorem gfX10_32 {Γ : Cfg} {l : Launch} {M : MT} {d b pc : Nat} {L S : List AV} {h : HP} {K : Ou → HP → Prop} {t : Int} (hM : M.1 = RX10) (dg : decode M.2.1 pc = .ok (.getfield 32, 3)) (ho : isO h t 8) (kk : AW Γ l M d b (pc + 3) L (vR (h.1 t 4) :: S) h K) : AW Γ l M d b pc L (vR t :: S) h K :=
  aw_getf0 (ci := 8) (C := RX10) (T := TX10) (N := 7) (k := 4) (q := (2, 4)) dg rfl (by decide) rfl (fun hown hts hnw => Or.inl (by rw [hM]; exact hts _ flX10_32)) inX10 rfl ho kk
theorem pfX10_32 {Γ : Cfg} {l : Launch} {M : MT} {d b pc : Nat} {L S : List AV} {h : HP} {K : Ou → HP → Prop} {t x : Int} (hM : M.1 = RX10) (dg : decode M.2.1 pc = .ok (.putfield 32, 3)) (ho : isO h t 8) (kk : AW Γ l M d b (pc + 3) L S (upd2 h.1 t 4 x, h.2) K) : AW Γ l M d b pc L (vR x :: vR t :: S) h K :=
  aw_putf0 (ci := 8) (C := RX10) (T := TX10) (N := 7) (k := 4) (q := (2, 4)) (h' := (upd2 h.1 t 4 x, h.2)) tyX10 dg rfl (by decide) rfl (fun hown hts hnw => Or.inl (by rw [hM]; exact hts _ flX10_32)) inX10 tyX10_ok nmX10 rfl (nar_rf _ _) (fits_rf _ _) rfl ho (fun t' q => entS_upd q) rfl (flv_upd (ci := 8) (k := 4) (q := (2, 4)) rfl (Or.inr rfl)) kk
theorem flX10_35 : Cond.fieldLink RX10 35 RX10 (TX10 5).2.1 (TX10 5).2.2.1 ∈ gw := tm1 71 (by decide +kernel) (by decide +kernel)
theorem pfX10_35 {Γ : Cfg} {l : Launch} {M : MT} {d b pc : Nat} {L S : List AV} {h : HP} {K : Ou → HP → Prop} {t x : Int} (hM : M.1 = RX10) (dg : decode M.2.1 pc = .ok (.putfield 35, 3)) (ho : isO h t 8) (kk : AW Γ l M d b (pc + 3) L S (upd2 h.1 t 5 x, h.2) K) : AW Γ l M d b pc L (vI x :: vR t :: S) h K :=
  aw_putf0 (ci := 8) (C := RX10) (T := TX10) (N := 7) (k := 5) (q := (0, 5)) (h' := (upd2 h.1 t 5 x, h.2)) tyX10 dg rfl (by decide) rfl (fun hown hts hnw => Or.inl (by rw [hM]; exact hts _ flX10_35)) inX10 tyX10_ok nmX10 rfl rfl rfl rfl ho (fun t' q => entS_upd q) rfl (flv_upd (ci := 8) (k := 5) (q := (0, 5)) rfl (Or.inl rfl)) kk
theorem flX10_38 : Cond.fieldLink RX10 38 RX10 (TX10 6).2.1 (TX10 6).2.2.1 ∈ gw := tm1 73 (by decide +kernel) (by decide +kernel)
theorem gfX10_38 {Γ : Cfg} {l : Launch} {M : MT} {d b pc : Nat} {L S : List AV} {h : HP} {K : Ou → HP → Prop} {t : Int} (hM : M.1 = RX10) (dg : decode M.2.1 pc = .ok (.getfield 38, 3)) (ho : isO h t 8) (kk : AW Γ l M d b (pc + 3) L (vI (h.1 t 6) :: S) h K) : AW Γ l M d b pc L (vR t :: S) h K :=
  aw_getf0 (ci := 8) (C := RX10) (T := TX10) (N := 7) (k := 6) (q := (0, 6)) dg rfl (by decide) rfl (fun hown hts hnw => Or.inl (by rw [hM]; exact hts _ flX10_38)) inX10 rfl ho kk
theorem pfX10_38 {Γ : Cfg} {l : Launch} {M : MT} {d b pc : Nat} {L S : List AV} {h : HP} {K : Ou → HP → Prop} {t x : Int} (hM : M.1 = RX10) (dg : decode M.2.1 pc = .ok (.putfield 38, 3)) (ho : isO h t 8) (kk : AW Γ l M d b (pc + 3) L S (upd2 h.1 t 6 x, h.2) K) : AW Γ l M d b pc L (vI x :: vR t :: S) h K :=
  aw_putf0 (ci := 8) (C := RX10) (T := TX10) (N := 7) (k := 6) (q := (0, 6)) (h' := (upd2 h.1 t 6 x, h.2)) tyX10 dg rfl (by decide) rfl (fun hown hts hnw => Or.inl (by rw [hM]; exact hts _ flX10_38)) inX10 tyX10_ok nmX10 rfl rfl rfl rfl ho (fun t' q => entS_upd q) rfl (flv_upd (ci := 8) (k := 6) (q := (0, 6)) rfl (Or.inl rfl)) kk
theorem flX12_3 : Cond.fieldLink RX12 3 RX12 (TX12 0).2.1 (TX12 0).2.2.1 ∈ gw := tm6 132 (by decide +kernel) (by decide +kernel)
theorem gfX12_3 {Γ : Cfg} {l : Launch} {M : MT} {d b pc : Nat} {L S : List AV} {h : HP} {K : Ou → HP → Prop} {t : Int} (hM : M.1 = RX12) (dg : decode M.2.1 pc = .ok (.getfield 3, 3)) (ho : isO h t 10) (kk : AW Γ l M d b (pc + 3) L (vI (h.1 t 0) :: S) h K) : AW Γ l M d b pc L (vR t :: S) h K :=
  aw_getf0 (ci := 10) (C := RX12) (T := TX12) (N := 34) (k := 0) (q := (0, 0)) dg rfl (by decide) rfl (fun hown hts hnw => Or.inl (by rw [hM]; exact hts _ flX12_3)) inX12 rfl ho kk
theorem pfX12_3 {Γ : Cfg} {l : Launch} {M : MT} {d b pc : Nat} {L S : List AV} {h : HP} {K : Ou → HP → Prop} {t x : Int} (hM : M.1 = RX12) (dg : decode M.2.1 pc = .ok (.putfield 3, 3)) (ho : isO h t 10) (kk : AW Γ l M d b (pc + 3) L S (upd2 h.1 t 0 x, h.2) K) : AW Γ l M d b pc L (vI x :: vR t :: S) h K :=
  aw_putf0 (ci := 10) (C := RX12) (T := TX12) (N := 34) (k := 0) (q := (0, 0)) (h' := (upd2 h.1 t 0 x, h.2)) tyX12 dg rfl (by decide) rfl (fun hown hts hnw => Or.inl (by rw [hM]; exact hts _ flX12_3)) inX12 tyX12_ok nmX12 rfl rfl rfl rfl ho (fun t' q => entS_upd q) rfl (flv_upd (ci := 10) (k := 0) (q := (0, 0)) rfl (Or.inl rfl)) kk
theorem flX12_13 : Cond.fieldLink RX12 13 RX12 (TX12 1).2.1 (TX12 1).2.2.1 ∈ gw := tm6 133 (by decide +kernel) (by decide +kernel)
theorem gfX12_13 {Γ : Cfg} {l : Launch} {M : MT} {d b pc : Nat} {L S : List AV} {h : HP} {K : Ou → HP → Prop} {t : Int} (hM : M.1 = RX12) (dg : decode M.2.1 pc = .ok (.getfield 13, 3)) (ho : isO h t 10) (kk : AW Γ l M d b (pc + 3) L (vR (h.2.1 t 1) :: S) h K) : AW Γ l M d b pc L (vR t :: S) h K :=
  aw_getf0 (ci := 10) (C := RX12) (T := TX12) (N := 34) (k := 1) (q := (1, 1)) dg rfl (by decide) rfl (fun hown hts hnw => Or.inl (by rw [hM]; exact hts _ flX12_13)) inX12 rfl ho kk
theorem flX12_17 : Cond.fieldLink RX12 17 RX12 (TX12 2).2.1 (TX12 2).2.2.1 ∈ gw := tm6 134 (by decide +kernel) (by decide +kernel)
theorem gfX12_17 {Γ : Cfg} {l : Launch} {M : MT} {d b pc : Nat} {L S : List AV} {h : HP} {K : Ou → HP → Prop} {t : Int} (hM : M.1 = RX12) (dg : decode M.2.1 pc = .ok (.getfield 17, 3)) (ho : isO h t 10) (kk : AW Γ l M d b (pc + 3) L (vR (h.2.1 t 2) :: S) h K) : AW Γ l M d b pc L (vR t :: S) h K :=
  aw_getf0 (ci := 10) (C := RX12) (T := TX12) (N := 34) (k := 2) (q := (1, 2)) dg rfl (by decide) rfl (fun hown hts hnw => Or.inl (by rw [hM]; exact hts _ flX12_17)) inX12 rfl ho kk
theorem flX12_20 : Cond.fieldLink RX12 20 RX12 (TX12 3).2.1 (TX12 3).2.2.1 ∈ gw := tm6 135 (by decide +kernel) (by decide +kernel)
theorem gfX12_20 {Γ : Cfg} {l : Launch} {M : MT} {d b pc : Nat} {L S : List AV} {h : HP} {K : Ou → HP → Prop} {t : Int} (hM : M.1 = RX12) (dg : decode M.2.1 pc = .ok (.getfield 20, 3)) (ho : isO h t 10) (kk : AW Γ l M d b (pc + 3) L (vR (h.2.1 t 3) :: S) h K) : AW Γ l M d b pc L (vR t :: S) h K :=
  aw_getf0 (ci := 10) (C := RX12) (T := TX12) (N := 34) (k := 3) (q := (1, 3)) dg rfl (by decide) rfl (fun hown hts hnw => Or.inl (by rw [hM]; exact hts _ flX12_20)) inX12 rfl ho kk
theorem flX12_23 : Cond.fieldLink RX12 23 RX12 (TX12 4).2.1 (TX12 4).2.2.1 ∈ gw := tm6 136 (by decide +kernel) (by decide +kernel)
theorem gfX12_23 {Γ : Cfg} {l : Launch} {M : MT} {d b pc : Nat} {L S : List AV} {h : HP} {K : Ou → HP → Prop} {t : Int} (hM : M.1 = RX12) (dg : decode M.2.1 pc = .ok (.getfield 23, 3)) (ho : isO h t 10) (kk : AW Γ l M d b (pc + 3) L (vR (h.2.1 t 4) :: S) h K) : AW Γ l M d b pc L (vR t :: S) h K :=
  aw_getf0 (ci := 10) (C := RX12) (T := TX12) (N := 34) (k := 4) (q := (1, 4)) dg rfl (by decide) rfl (fun hown hts hnw => Or.inl (by rw [hM]; exact hts _ flX12_23)) inX12 rfl ho kk
theorem flX12_26 : Cond.fieldLink RX12 26 RX12 (TX12 5).2.1 (TX12 5).2.2.1 ∈ gw := tm6 137 (by decide +kernel) (by decide +kernel)
theorem gfX12_26 {Γ : Cfg} {l : Launch} {M : MT} {d b pc : Nat} {L S : List AV} {h : HP} {K : Ou → HP → Prop} {t : Int} (hM : M.1 = RX12) (dg : decode M.2.1 pc = .ok (.getfield 26, 3)) (ho : isO h t 10) (kk : AW Γ l M d b (pc + 3) L (vR (h.2.1 t 5) :: S) h K) : AW Γ l M d b pc L (vR t :: S) h K :=
  aw_getf0 (ci := 10) (C := RX12) (T := TX12) (N := 34) (k := 5) (q := (1, 5)) dg rfl (by decide) rfl (fun hown hts hnw => Or.inl (by rw [hM]; exact hts _ flX12_26)) inX12 rfl ho kk
theorem flX12_29 : Cond.fieldLink RX12 29 RX12 (TX12 8).2.1 (TX12 8).2.2.1 ∈ gw := tm6 140 (by decide +kernel) (by decide +kernel)
theorem gfX12_29 {Γ : Cfg} {l : Launch} {M : MT} {d b pc : Nat} {L S : List AV} {h : HP} {K : Ou → HP → Prop} {t : Int} (hM : M.1 = RX12) (dg : decode M.2.1 pc = .ok (.getfield 29, 3)) (ho : isO h t 10) (kk : AW Γ l M d b (pc + 3) L (vR (h.2.1 t 8) :: S) h K) : AW Γ l M d b pc L (vR t :: S) h K :=
  aw_getf0 (ci := 10) (C := RX12) (T := TX12) (N := 34) (k := 8) (q := (1, 8)) dg rfl (by decide) rfl (fun hown hts hnw => Or.inl (by rw [hM]; exact hts _ flX12_29)) inX12 rfl ho kk
theorem flX12_33 : Cond.fieldLink RX12 33 RX12 (TX12 14).2.1 (TX12 14).2.2.1 ∈ gw := tm6 146 (by decide +kernel) (by decide +kernel)
theorem gfX12_33 {Γ : Cfg} {l : Launch} {M : MT} {d b pc : Nat} {L S : List AV} {h : HP} {K : Ou → HP → Prop} {t : Int} (hM : M.1 = RX12) (dg : decode M.2.1 pc = .ok (.getfield 33, 3)) (ho : isO h t 10) (kk : AW Γ l M d b (pc + 3) L (vI (h.1 t 14) :: S) h K) : AW Γ l M d b pc L (vR t :: S) h K :=
  aw_getf0 (ci := 10) (C := RX12) (T := TX12) (N := 34) (k := 14) (q := (0, 14)) dg rfl (by decide) rfl (fun hown hts hnw => Or.inl (by rw [hM]; exact hts _ flX12_33)) inX12 rfl ho kk
theorem pfX12_33 {Γ : Cfg} {l : Launch} {M : MT} {d b pc : Nat} {L S : List AV} {h : HP} {K : Ou → HP → Prop} {t x : Int} (hM : M.1 = RX12) (dg : decode M.2.1 pc = .ok (.putfield 33, 3)) (ho : isO h t 10) (kk : AW Γ l M d b (pc + 3) L S (upd2 h.1 t 14 x, h.2) K) : AW Γ l M d b pc L (vI x :: vR t :: S) h K :=
  aw_putf0 (ci := 10) (C := RX12) (T := TX12) (N := 34) (k := 14) (q := (0, 14)) (h' := (upd2 h.1 t 14 x, h.2)) tyX12 dg rfl (by decide) rfl (fun hown hts hnw => Or.inl (by rw [hM]; exact hts _ flX12_33)) inX12 tyX12_ok nmX12 rfl rfl rfl rfl ho (fun t' q => entS_upd q) rfl (flv_upd (ci := 10) (k := 14) (q := (0, 14)) rfl (Or.inl rfl)) kk
theorem flX12_36 : Cond.fieldLink RX12 36 RX12 (TX12 15).2.1 (TX12 15).2.2.1 ∈ gw := tm6 147 (by decide +kernel) (by decide +kernel)
theorem gfX12_36 {Γ : Cfg} {l : Launch} {M : MT} {d b pc : Nat} {L S : List AV} {h : HP} {K : Ou → HP → Prop} {t : Int} (hM : M.1 = RX12) (dg : decode M.2.1 pc = .ok (.getfield 36, 3)) (ho : isO h t 10) (kk : AW Γ l M d b (pc + 3) L (vR (h.2.1 t 15) :: S) h K) : AW Γ l M d b pc L (vR t :: S) h K :=
  aw_getf0 (ci := 10) (C := RX12) (T := TX12) (N := 34) (k := 15) (q := (1, 15)) dg rfl (by decide) rfl (fun hown hts hnw => Or.inl (by rw [hM]; exact hts _ flX12_36)) inX12 rfl ho kk
theorem flX12_39 : Cond.fieldLink RX12 39 RX12 (TX12 18).2.1 (TX12 18).2.2.1 ∈ gw := tm6 150 (by decide +kernel) (by decide +kernel)
theorem gfX12_39 {Γ : Cfg} {l : Launch} {M : MT} {d b pc : Nat} {L S : List AV} {h : HP} {K : Ou → HP → Prop} {t : Int} (hM : M.1 = RX12) (dg : decode M.2.1 pc = .ok (.getfield 39, 3)) (ho : isO h t 10) (kk : AW Γ l M d b (pc + 3) L (vR (h.2.1 t 18) :: S) h K) : AW Γ l M d b pc L (vR t :: S) h K :=
  aw_getf0 (ci := 10) (C := RX12) (T := TX12) (N := 34) (k := 18) (q := (1, 18)) dg rfl (by decide) rfl (fun hown hts hnw => Or.inl (by rw [hM]; exact hts _ flX12_39)) inX12 rfl ho kk
theorem flX12_42 : Cond.fieldLink RX12 42 RX12 (TX12 22).2.1 (TX12 22).2.2.1 ∈ gw := tm6 154 (by decide +kernel) (by decide +kernel)
theorem gfX12_42 {Γ : Cfg} {l : Launch} {M : MT} {d b pc : Nat} {L S : List AV} {h : HP} {K : Ou → HP → Prop} {t : Int} (hM : M.1 = RX12) (dg : decode M.2.1 pc = .ok (.getfield 42, 3)) (ho : isO h t 10) (kk : AW Γ l M d b (pc + 3) L (vR (h.2.1 t 22) :: S) h K) : AW Γ l M d b pc L (vR t :: S) h K :=
  aw_getf0 (ci := 10) (C := RX12) (T := TX12) (N := 34) (k := 22) (q := (1, 22)) dg rfl (by decide) rfl (fun hown hts hnw => Or.inl (by rw [hM]; exact hts _ flX12_42)) inX12 rfl ho kk
theorem flX12_45 : Cond.fieldLink RX12 45 RX12 (TX12 23).2.1 (TX12 23).2.2.1 ∈ gw := tm6 155 (by decide +kernel) (by decide +kernel)
theorem gfX12_45 {Γ : Cfg} {l : Launch} {M : MT} {d b pc : Nat} {L S : List AV} {h : HP} {K : Ou → HP → Prop} {t : Int} (hM : M.1 = RX12) (dg : decode M.2.1 pc = .ok (.getfield 45, 3)) (ho : isO h t 10) (kk : AW Γ l M d b (pc + 3) L (vR (h.2.1 t 23) :: S) h K) : AW Γ l M d b pc L (vR t :: S) h K :=
  aw_getf0 (ci := 10) (C := RX12) (T := TX12) (N := 34) (k := 23) (q := (1, 23)) dg rfl (by decide) rfl (fun hown hts hnw => Or.inl (by rw [hM]; exact hts _ flX12_45)) inX12 rfl ho kk
theorem flX12_48 : Cond.fieldLink RX12 48 RX12 (TX12 25).2.1 (TX12 25).2.2.1 ∈ gw := tm6 157 (by decide +kernel) (by decide +kernel)
theorem gfX12_48 {Γ : Cfg} {l : Launch} {M : MT} {d b pc : Nat} {L S : List AV} {h : HP} {K : Ou → HP → Prop} {t : Int} (hM : M.1 = RX12) (dg : decode M.2.1 pc = .ok (.getfield 48, 3)) (ho : isO h t 10) (kk : AW Γ l M d b (pc + 3) L (vR (h.2.1 t 25) :: S) h K) : AW Γ l M d b pc L (vR t :: S) h K :=
  aw_getf0 (ci := 10) (C := RX12) (T := TX12) (N := 34) (k := 25) (q := (1, 25)) dg rfl (by decide) rfl (fun hown hts hnw => Or.inl (by rw [hM]; exact hts _ flX12_48)) inX12 rfl ho kk
theorem flX12_51 : Cond.fieldLink RX12 51 RX12 (TX12 26).2.1 (TX12 26).2.2.1 ∈ gw := tm6 158 (by decide +kernel) (by decide +kernel)
theorem gfX12_51 {Γ : Cfg} {l : Launch} {M : MT} {d b pc : Nat} {L S : List AV} {h : HP} {K : Ou → HP → Prop} {t : Int} (hM : M.1 = RX12) (dg : decode M.2.1 pc = .ok (.getfield 51, 3)) (ho : isO h t 10) (kk : AW Γ l M d b (pc + 3) L (vR (h.2.1 t 26) :: S) h K) : AW Γ l M d b pc L (vR t :: S) h K :=
  aw_getf0 (ci := 10) (C := RX12) (T := TX12) (N := 34) (k := 26) (q := (1, 26)) dg rfl (by decide) rfl (fun hown hts hnw => Or.inl (by rw [hM]; exact hts _ flX12_51)) inX12 rfl ho kk
theorem flX12_54 : Cond.fieldLink RX12 54 RX12 (TX12 28).2.1 (TX12 28).2.2.1 ∈ gw := tm6 160 (by decide +kernel) (by decide +kernel)
theorem gfX12_54 {Γ : Cfg} {l : Launch} {M : MT} {d b pc : Nat} {L S : List AV} {h : HP} {K : Ou → HP → Prop} {t : Int} (hM : M.1 = RX12) (dg : decode M.2.1 pc = .ok (.getfield 54, 3)) (ho : isO h t 10) (kk : AW Γ l M d b (pc + 3) L (vR (h.2.1 t 28) :: S) h K) : AW Γ l M d b pc L (vR t :: S) h K :=
  aw_getf0 (ci := 10) (C := RX12) (T := TX12) (N := 34) (k := 28) (q := (1, 28)) dg rfl (by decide) rfl (fun hown hts hnw => Or.inl (by rw [hM]; exact hts _ flX12_54)) inX12 rfl ho kk
theorem flX12_57 : Cond.fieldLink RX12 57 RX12 (TX12 29).2.1 (TX12 29).2.2.1 ∈ gw := tm6 161 (by decide +kernel) (by decide +kernel)
theorem gfX12_57 {Γ : Cfg} {l : Launch} {M : MT} {d b pc : Nat} {L S : List AV} {h : HP} {K : Ou → HP → Prop} {t : Int} (hM : M.1 = RX12) (dg : decode M.2.1 pc = .ok (.getfield 57, 3)) (ho : isO h t 10) (kk : AW Γ l M d b (pc + 3) L (vR (h.2.1 t 29) :: S) h K) : AW Γ l M d b pc L (vR t :: S) h K :=
  aw_getf0 (ci := 10) (C := RX12) (T := TX12) (N := 34) (k := 29) (q := (1, 29)) dg rfl (by decide) rfl (fun hown hts hnw => Or.inl (by rw [hM]; exact hts _ flX12_57)) inX12 rfl ho kk
theorem flX12_60 : Cond.fieldLink RX12 60 RX12 (TX12 30).2.1 (TX12 30).2.2.1 ∈ gw := tm6 162 (by decide +kernel) (by decide +kernel)
theorem gfX12_60 {Γ : Cfg} {l : Launch} {M : MT} {d b pc : Nat} {L S : List AV} {h : HP} {K : Ou → HP → Prop} {t : Int} (hM : M.1 = RX12) (dg : decode M.2.1 pc = .ok (.getfield 60, 3)) (ho : isO h t 10) (kk : AW Γ l M d b (pc + 3) L (vR (h.2.1 t 30) :: S) h K) : AW Γ l M d b pc L (vR t :: S) h K :=
  aw_getf0 (ci := 10) (C := RX12) (T := TX12) (N := 34) (k := 30) (q := (1, 30)) dg rfl (by decide) rfl (fun hown hts hnw => Or.inl (by rw [hM]; exact hts _ flX12_60)) inX12 rfl ho kk
theorem flX12_63 : Cond.fieldLink RX12 63 RX12 (TX12 31).2.1 (TX12 31).2.2.1 ∈ gw := tm6 163 (by decide +kernel) (by decide +kernel)
theorem gfX12_63 {Γ : Cfg} {l : Launch} {M : MT} {d b pc : Nat} {L S : List AV} {h : HP} {K : Ou → HP → Prop} {t : Int} (hM : M.1 = RX12) (dg : decode M.2.1 pc = .ok (.getfield 63, 3)) (ho : isO h t 10) (kk : AW Γ l M d b (pc + 3) L (vR (h.2.1 t 31) :: S) h K) : AW Γ l M d b pc L (vR t :: S) h K :=
  aw_getf0 (ci := 10) (C := RX12) (T := TX12) (N := 34) (k := 31) (q := (1, 31)) dg rfl (by decide) rfl (fun hown hts hnw => Or.inl (by rw [hM]; exact hts _ flX12_63)) inX12 rfl ho kk
theorem flX12_66 : Cond.fieldLink RX12 66 RX12 (TX12 32).2.1 (TX12 32).2.2.1 ∈ gw := tm6 164 (by decide +kernel) (by decide +kernel)
theorem gfX12_66 {Γ : Cfg} {l : Launch} {M : MT} {d b pc : Nat} {L S : List AV} {h : HP} {K : Ou → HP → Prop} {t : Int} (hM : M.1 = RX12) (dg : decode M.2.1 pc = .ok (.getfield 66, 3)) (ho : isO h t 10) (kk : AW Γ l M d b (pc + 3) L (vR (h.2.1 t 32) :: S) h K) : AW Γ l M d b pc L (vR t :: S) h K :=
  aw_getf0 (ci := 10) (C := RX12) (T := TX12) (N := 34) (k := 32) (q := (1, 32)) dg rfl (by decide) rfl (fun hown hts hnw => Or.inl (by rw [hM]; exact hts _ flX12_66)) inX12 rfl ho kk
theorem flX12_70 : Cond.fieldLink RX12 70 RX12 (TX12 33).2.1 (TX12 33).2.2.1 ∈ gw := tm6 165 (by decide +kernel) (by decide +kernel)
theorem gfX12_70 {Γ : Cfg} {l : Launch} {M : MT} {d b pc : Nat} {L S : List AV} {h : HP} {K : Ou → HP → Prop} {t : Int} (hM : M.1 = RX12) (dg : decode M.2.1 pc = .ok (.getfield 70, 3)) (ho : isO h t 10) (kk : AW Γ l M d b (pc + 3) L (vR (h.2.1 t 33) :: S) h K) : AW Γ l M d b pc L (vR t :: S) h K :=
  aw_getf0 (ci := 10) (C := RX12) (T := TX12) (N := 34) (k := 33) (q := (1, 33)) dg rfl (by decide) rfl (fun hown hts hnw => Or.inl (by rw [hM]; exact hts _ flX12_70)) inX12 rfl ho kk
theorem flX12_73 : Cond.fieldLink RX12 73 RX12 (TX12 6).2.1 (TX12 6).2.2.1 ∈ gw := tm6 138 (by decide +kernel) (by decide +kernel)
theorem gfX12_73 {Γ : Cfg} {l : Launch} {M : MT} {d b pc : Nat} {L S : List AV} {h : HP} {K : Ou → HP → Prop} {t : Int} (hM : M.1 = RX12) (dg : decode M.2.1 pc = .ok (.getfield 73, 3)) (ho : isO h t 10) (kk : AW Γ l M d b (pc + 3) L (vI (h.1 t 6) :: S) h K) : AW Γ l M d b pc L (vR t :: S) h K :=
  aw_getf0 (ci := 10) (C := RX12) (T := TX12) (N := 34) (k := 6) (q := (0, 6)) dg rfl (by decide) rfl (fun hown hts hnw => Or.inl (by rw [hM]; exact hts _ flX12_73)) inX12 rfl ho kk
theorem pfX12_73 {Γ : Cfg} {l : Launch} {M : MT} {d b pc : Nat} {L S : List AV} {h : HP} {K : Ou → HP → Prop} {t x : Int} (hM : M.1 = RX12) (dg : decode M.2.1 pc = .ok (.putfield 73, 3)) (ho : isO h t 10) (hx : narrow .boolean (.int (Int32.ofInt x)) = .int (Int32.ofInt x)) (hx2 : fits .boolean (.int (Int32.ofInt x)) = true) (kk : AW Γ l M d b (pc + 3) L S (upd2 h.1 t 6 x, h.2) K) : AW Γ l M d b pc L (vI x :: vR t :: S) h K :=
  aw_putf0 (ci := 10) (C := RX12) (T := TX12) (N := 34) (k := 6) (q := (0, 6)) (h' := (upd2 h.1 t 6 x, h.2)) tyX12 dg rfl (by decide) rfl (fun hown hts hnw => Or.inl (by rw [hM]; exact hts _ flX12_73)) inX12 tyX12_ok nmX12 rfl hx hx2 rfl ho (fun t' q => entS_upd q) rfl (flv_upd (ci := 10) (k := 6) (q := (0, 6)) rfl (Or.inl rfl)) kk
theorem flX12_77 : Cond.fieldLink RX12 77 RX12 (TX12 7).2.1 (TX12 7).2.2.1 ∈ gw := tm6 139 (by decide +kernel) (by decide +kernel)
theorem gfX12_77 {Γ : Cfg} {l : Launch} {M : MT} {d b pc : Nat} {L S : List AV} {h : HP} {K : Ou → HP → Prop} {t : Int} (hM : M.1 = RX12) (dg : decode M.2.1 pc = .ok (.getfield 77, 3)) (ho : isO h t 10) (kk : AW Γ l M d b (pc + 3) L (vI (h.1 t 7) :: S) h K) : AW Γ l M d b pc L (vR t :: S) h K :=
  aw_getf0 (ci := 10) (C := RX12) (T := TX12) (N := 34) (k := 7) (q := (0, 7)) dg rfl (by decide) rfl (fun hown hts hnw => Or.inl (by rw [hM]; exact hts _ flX12_77)) inX12 rfl ho kk
theorem pfX12_77 {Γ : Cfg} {l : Launch} {M : MT} {d b pc : Nat} {L S : List AV} {h : HP} {K : Ou → HP → Prop} {t x : Int} (hM : M.1 = RX12) (dg : decode M.2.1 pc = .ok (.putfield 77, 3)) (ho : isO h t 10) (kk : AW Γ l M d b (pc + 3) L S (upd2 h.1 t 7 x, h.2) K) : AW Γ l M d b pc L (vI x :: vR t :: S) h K :=
  aw_putf0 (ci := 10) (C := RX12) (T := TX12) (N := 34) (k := 7) (q := (0, 7)) (h' := (upd2 h.1 t 7 x, h.2)) tyX12 dg rfl (by decide) rfl (fun hown hts hnw => Or.inl (by rw [hM]; exact hts _ flX12_77)) inX12 tyX12_ok nmX12 rfl rfl rfl rfl ho (fun t' q => entS_upd q) rfl (flv_upd (ci := 10) (k := 7) (q := (0, 7)) rfl (Or.inl rfl)) kk
theorem flX12_96 : Cond.fieldLink RX12 96 RX12 (TX12 9).2.1 (TX12 9).2.2.1 ∈ gw := tm6 141 (by decide +kernel) (by decide +kernel)
theorem gfX12_96 {Γ : Cfg} {l : Launch} {M : MT} {d b pc : Nat} {L S : List AV} {h : HP} {K : Ou → HP → Prop} {t : Int} (hM : M.1 = RX12) (dg : decode M.2.1 pc = .ok (.getfield 96, 3)) (ho : isO h t 10) (kk : AW Γ l M d b (pc + 3) L (vI (h.1 t 9) :: S) h K) : AW Γ l M d b pc L (vR t :: S) h K :=
  aw_getf0 (ci := 10) (C := RX12) (T := TX12) (N := 34) (k := 9) (q := (0, 9)) dg rfl (by decide) rfl (fun hown hts hnw => Or.inl (by rw [hM]; exact hts _ flX12_96)) inX12 rfl ho kk
theorem pfX12_96 {Γ : Cfg} {l : Launch} {M : MT} {d b pc : Nat} {L S : List AV} {h : HP} {K : Ou → HP → Prop} {t x : Int} (hM : M.1 = RX12) (dg : decode M.2.1 pc = .ok (.putfield 96, 3)) (ho : isO h t 10) (kk : AW Γ l M d b (pc + 3) L S (upd2 h.1 t 9 x, h.2) K) : AW Γ l M d b pc L (vI x :: vR t :: S) h K :=
  aw_putf0 (ci := 10) (C := RX12) (T := TX12) (N := 34) (k := 9) (q := (0, 9)) (h' := (upd2 h.1 t 9 x, h.2)) tyX12 dg rfl (by decide) rfl (fun hown hts hnw => Or.inl (by rw [hM]; exact hts _ flX12_96)) inX12 tyX12_ok nmX12 rfl rfl rfl rfl ho (fun t' q => entS_upd q) rfl (flv_upd (ci := 10) (k := 9) (q := (0, 9)) rfl (Or.inl rfl)) kk
theorem flX12_99 : Cond.fieldLink RX12 99 RX12 (TX12 10).2.1 (TX12 10).2.2.1 ∈ gw := tm6 142 (by decide +kernel) (by decide +kernel)
theorem gfX12_99 {Γ : Cfg} {l : Launch} {M : MT} {d b pc : Nat} {L S : List AV} {h : HP} {K : Ou → HP → Prop} {t : Int} (hM : M.1 = RX12) (dg : decode M.2.1 pc = .ok (.getfield 99, 3)) (ho : isO h t 10) (kk : AW Γ l M d b (pc + 3) L (vI (h.1 t 10) :: S) h K) : AW Γ l M d b pc L (vR t :: S) h K :=
  aw_getf0 (ci := 10) (C := RX12) (T := TX12) (N := 34) (k := 10) (q := (0, 10)) dg rfl (by decide) rfl (fun hown hts hnw => Or.inl (by rw [hM]; exact hts _ flX12_99)) inX12 rfl ho kk
theorem pfX12_99 {Γ : Cfg} {l : Launch} {M : MT} {d b pc : Nat} {L S : List AV} {h : HP} {K : Ou → HP → Prop} {t x : Int} (hM : M.1 = RX12) (dg : decode M.2.1 pc = .ok (.putfield 99, 3)) (ho : isO h t 10) (kk : AW Γ l M d b (pc + 3) L S (upd2 h.1 t 10 x, h.2) K) : AW Γ l M d b pc L (vI x :: vR t :: S) h K :=
  aw_putf0 (ci := 10) (C := RX12) (T := TX12) (N := 34) (k := 10) (q := (0, 10)) (h' := (upd2 h.1 t 10 x, h.2)) tyX12 dg rfl (by decide) rfl (fun hown hts hnw => Or.inl (by rw [hM]; exact hts _ flX12_99)) inX12 tyX12_ok nmX12 rfl rfl rfl rfl ho (fun t' q => entS_upd q) rfl (flv_upd (ci := 10) (k := 10) (q := (0, 10)) rfl (Or.inl rfl)) kk
theorem flX12_102 : Cond.fieldLink RX12 102 RX12 (TX12 11).2.1 (TX12 11).2.2.1 ∈ gw := tm6 143 (by decide +kernel) (by decide +kernel)
theorem gfX12_102 {Γ : Cfg} {l : Launch} {M : MT} {d b pc : Nat} {L S : List AV} {h : HP} {K : Ou → HP → Prop} {t : Int} (hM : M.1 = RX12) (dg : decode M.2.1 pc = .ok (.getfield 102, 3)) (ho : isO h t 10) (kk : AW Γ l M d b (pc + 3) L (vI (h.1 t 11) :: S) h K) : AW Γ l M d b pc L (vR t :: S) h K :=
  aw_getf0 (ci := 10) (C := RX12) (T := TX12) (N := 34) (k := 11) (q := (0, 11)) dg rfl (by decide) rfl (fun hown hts hnw => Or.inl (by rw [hM]; exact hts _ flX12_102)) inX12 rfl ho kk
theorem pfX12_102 {Γ : Cfg} {l : Launch} {M : MT} {d b pc : Nat} {L S : List AV} {h : HP} {K : Ou → HP → Prop} {t x : Int} (hM : M.1 = RX12) (dg : decode M.2.1 pc = .ok (.putfield 102, 3)) (ho : isO h t 10) (kk : AW Γ l M d b (pc + 3) L S (upd2 h.1 t 11 x, h.2) K) : AW Γ l M d b pc L (vI x :: vR t :: S) h K :=
  aw_putf0 (ci := 10) (C := RX12) (T := TX12) (N := 34) (k := 11) (q := (0, 11)) (h' := (upd2 h.1 t 11 x, h.2)) tyX12 dg rfl (by decide) rfl (fun hown hts hnw => Or.inl (by rw [hM]; exact hts _ flX12_102)) inX12 tyX12_ok nmX12 rfl rfl rfl rfl ho (fun t' q => entS_upd q) rfl (flv_upd (ci := 10) (k := 11) (q := (0, 11)) rfl (Or.inl rfl)) kk
theorem flX12_109 : Cond.fieldLink RX12 109 RX12 (TX12 12).2.1 (TX12 12).2.2.1 ∈ gw := tm6 144 (by decide +kernel) (by decide +kernel)
theorem gfX12_109 {Γ : Cfg} {l : Launch} {M : MT} {d b pc : Nat} {L S : List AV} {h : HP} {K : Ou → HP → Prop} {t : Int} (hM : M.1 = RX12) (dg : decode M.2.1 pc = .ok (.getfield 109, 3)) (ho : isO h t 10) (kk : AW Γ l M d b (pc + 3) L (vI (h.1 t 12) :: S) h K) : AW Γ l M d b pc L (vR t :: S) h K :=
  aw_getf0 (ci := 10) (C := RX12) (T := TX12) (N := 34) (k := 12) (q := (0, 12)) dg rfl (by decide) rfl (fun hown hts hnw => Or.inl (by rw [hM]; exact hts _ flX12_109)) inX12 rfl ho kk
theorem pfX12_109 {Γ : Cfg} {l : Launch} {M : MT} {d b pc : Nat} {L S : List AV} {h : HP} {K : Ou → HP → Prop} {t x : Int} (hM : M.1 = RX12) (dg : decode M.2.1 pc = .ok (.putfield 109, 3)) (ho : isO h t 10) (kk : AW Γ l M d b (pc + 3) L S (upd2 h.1 t 12 x, h.2) K) : AW Γ l M d b pc L (vI x :: vR t :: S) h K :=
  aw_putf0 (ci := 10) (C := RX12) (T := TX12) (N := 34) (k := 12) (q := (0, 12)) (h' := (upd2 h.1 t 12 x, h.2)) tyX12 dg rfl (by decide) rfl (fun hown hts hnw => Or.inl (by rw [hM]; exact hts _ flX12_109)) inX12 tyX12_ok nmX12 rfl rfl rfl rfl ho (fun t' q => entS_upd q) rfl (flv_upd (ci := 10) (k := 12) (q := (0, 12)) rfl (Or.inl rfl)) kk
theorem flX12_158 : Cond.fieldLink RX12 158 RX12 (TX12 16).2.1 (TX12 16).2.2.1 ∈ gw := tm6 148 (by decide +kernel) (by decide +kernel)
theorem gfX12_158 {Γ : Cfg} {l : Launch} {M : MT} {d b pc : Nat} {L S : List AV} {h : HP} {K : Ou → HP → Prop} {t : Int} (hM : M.1 = RX12) (dg : decode M.2.1 pc = .ok (.getfield 158, 3)) (ho : isO h t 10) (kk : AW Γ l M d b (pc + 3) L (vI (h.1 t 16) :: S) h K) : AW Γ l M d b pc L (vR t :: S) h K :=
  aw_getf0 (ci := 10) (C := RX12) (T := TX12) (N := 34) (k := 16) (q := (0, 16)) dg rfl (by decide) rfl (fun hown hts hnw => Or.inl (by rw [hM]; exact hts _ flX12_158)) inX12 rfl ho kk
theorem pfX12_158 {Γ : Cfg} {l : Launch} {M : MT} {d b pc : Nat} {L S : List AV} {h : HP} {K : Ou → HP → Prop} {t x : Int} (hM : M.1 = RX12) (dg : decode M.2.1 pc = .ok (.putfield 158, 3)) (ho : isO h t 10) (kk : AW Γ l M d b (pc + 3) L S (upd2 h.1 t 16 x, h.2) K) : AW Γ l M d b pc L (vI x :: vR t :: S) h K :=
  aw_putf0 (ci := 10) (C := RX12) (T := TX12) (N := 34) (k := 16) (q := (0, 16)) (h' := (upd2 h.1 t 16 x, h.2)) tyX12 dg rfl (by decide) rfl (fun hown hts hnw => Or.inl (by rw [hM]; exact hts _ flX12_158)) inX12 tyX12_ok nmX12 rfl rfl rfl rfl ho (fun t' q => entS_upd q) rfl (flv_upd (ci := 10) (k := 16) (q := (0, 16)) rfl (Or.inl rfl)) kk
theorem flX12_202 : Cond.fieldLink RX12 202 RX12 (TX12 17).2.1 (TX12 17).2.2.1 ∈ gw := tm6 149 (by decide +kernel) (by decide +kernel)
theorem gfX12_202 {Γ : Cfg} {l : Launch} {M : MT} {d b pc : Nat} {L S : List AV} {h : HP} {K : Ou → HP → Prop} {t : Int} (hM : M.1 = RX12) (dg : decode M.2.1 pc = .ok (.getfield 202, 3)) (ho : isO h t 10) (kk : AW Γ l M d b (pc + 3) L (vI (h.1 t 17) :: S) h K) : AW Γ l M d b pc L (vR t :: S) h K :=
  aw_getf0 (ci := 10) (C := RX12) (T := TX12) (N := 34) (k := 17) (q := (0, 17)) dg rfl (by decide) rfl (fun hown hts hnw => Or.inl (by rw [hM]; exact hts _ flX12_202)) inX12 rfl ho kk
theorem pfX12_202 {Γ : Cfg} {l : Launch} {M : MT} {d b pc : Nat} {L S : List AV} {h : HP} {K : Ou → HP → Prop} {t x : Int} (hM : M.1 = RX12) (dg : decode M.2.1 pc = .ok (.putfield 202, 3)) (ho : isO h t 10) (kk : AW Γ l M d b (pc + 3) L S (upd2 h.1 t 17 x, h.2) K) : AW Γ l M d b pc L (vI x :: vR t :: S) h K :=
  aw_putf0 (ci := 10) (C := RX12) (T := TX12) (N := 34) (k := 17) (q := (0, 17)) (h' := (upd2 h.1 t 17 x, h.2)) tyX12 dg rfl (by decide) rfl (fun hown hts hnw => Or.inl (by rw [hM]; exact hts _ flX12_202)) inX12 tyX12_ok nmX12 rfl rfl rfl rfl ho (fun t' q => entS_upd q) rfl (flv_upd (ci := 10) (k := 17) (q := (0, 17)) rfl (Or.inl rfl)) kk
theorem flX12_234 : Cond.fieldLink RX12 234 RX12 (TX12 13).2.1 (TX12 13).2.2.1 ∈ gw := tm6 145 (by decide +kernel) (by decide +kernel)
theorem gfX12_234 {Γ : Cfg} {l : Launch} {M : MT} {d b pc : Nat} {L S : List AV} {h : HP} {K : Ou → HP → Prop} {t : Int} (hM : M.1 = RX12) (dg : decode M.2.1 pc = .ok (.getfield 234, 3)) (ho : isO h t 10) (kk : AW Γ l M d b (pc + 3) L (vI (h.1 t 13) :: S) h K) : AW Γ l M d b pc L (vR t :: S) h K :=
  aw_getf0 (ci := 10) (C := RX12) (T := TX12) (N := 34) (k := 13) (q := (0, 13)) dg rfl (by decide) rfl (fun hown hts hnw => Or.inl (by rw [hM]; exact hts _ flX12_234)) inX12 rfl ho kk
theorem pfX12_234 {Γ : Cfg} {l : Launch} {M : MT} {d b pc : Nat} {L S : List AV} {h : HP} {K : Ou → HP → Prop} {t x : Int} (hM : M.1 = RX12) (dg : decode M.2.1 pc = .ok (.putfield 234, 3)) (ho : isO h t 10) (kk : AW Γ l M d b (pc + 3) L S (upd2 h.1 t 13 x, h.2) K) : AW Γ l M d b pc L (vI x :: vR t :: S) h K :=
  aw_putf0 (ci := 10) (C := RX12) (T := TX12) (N := 34) (k := 13) (q := (0, 13)) (h' := (upd2 h.1 t 13 x, h.2)) tyX12 dg rfl (by decide) rfl (fun hown hts hnw => Or.inl (by rw [hM]; exact hts _ flX12_234)) inX12 tyX12_ok nmX12 rfl rfl rfl rfl ho (fun t' q => entS_upd q) rfl (flv_upd (ci := 10) (k := 13) (q := (0, 13)) rfl (Or.inl rfl)) kk
theorem flX12_282 : Cond.fieldLink RX12 282 RX12 (TX12 19).2.1 (TX12 19).2.2.1 ∈ gw := tm6 151 (by decide +kernel) (by decide +kernel)
theorem gfX12_282 {Γ : Cfg} {l : Launch} {M : MT} {d b pc : Nat} {L S : List AV} {h : HP} {K : Ou → HP → Prop} {t : Int} (hM : M.1 = RX12) (dg : decode M.2.1 pc = .ok (.getfield 282, 3)) (ho : isO h t 10) (kk : AW Γ l M d b (pc + 3) L (vI (h.1 t 19) :: S) h K) : AW Γ l M d b pc L (vR t :: S) h K :=
  aw_getf0 (ci := 10) (C := RX12) (T := TX12) (N := 34) (k := 19) (q := (0, 19)) dg rfl (by decide) rfl (fun hown hts hnw => Or.inl (by rw [hM]; exact hts _ flX12_282)) inX12 rfl ho kk
theorem pfX12_282 {Γ : Cfg} {l : Launch} {M : MT} {d b pc : Nat} {L S : List AV} {h : HP} {K : Ou → HP → Prop} {t x : Int} (hM : M.1 = RX12) (dg : decode M.2.1 pc = .ok (.putfield 282, 3)) (ho : isO h t 10) (kk : AW Γ l M d b (pc + 3) L S (upd2 h.1 t 19 x, h.2) K) : AW Γ l M d b pc L (vI x :: vR t :: S) h K :=
  aw_putf0 (ci := 10) (C := RX12) (T := TX12) (N := 34) (k := 19) (q := (0, 19)) (h' := (upd2 h.1 t 19 x, h.2)) tyX12 dg rfl (by decide) rfl (fun hown hts hnw => Or.inl (by rw [hM]; exact hts _ flX12_282)) inX12 tyX12_ok nmX12 rfl rfl rfl rfl ho (fun t' q => entS_upd q) rfl (flv_upd (ci := 10) (k := 19) (q := (0, 19)) rfl (Or.inl rfl)) kk
theorem flX12_297 : Cond.fieldLink RX12 297 RX12 (TX12 20).2.1 (TX12 20).2.2.1 ∈ gw := tm6 152 (by decide +kernel) (by decide +kernel)
theorem gfX12_297 {Γ : Cfg} {l : Launch} {M : MT} {d b pc : Nat} {L S : List AV} {h : HP} {K : Ou → HP → Prop} {t : Int} (hM : M.1 = RX12) (dg : decode M.2.1 pc = .ok (.getfield 297, 3)) (ho : isO h t 10) (kk : AW Γ l M d b (pc + 3) L (vI (h.1 t 20) :: S) h K) : AW Γ l M d b pc L (vR t :: S) h K :=
  aw_getf0 (ci := 10) (C := RX12) (T := TX12) (N := 34) (k := 20) (q := (0, 20)) dg rfl (by decide) rfl (fun hown hts hnw => Or.inl (by rw [hM]; exact hts _ flX12_297)) inX12 rfl ho kk
theorem pfX12_297 {Γ : Cfg} {l : Launch} {M : MT} {d b pc : Nat} {L S : List AV} {h : HP} {K : Ou → HP → Prop} {t x : Int} (hM : M.1 = RX12) (dg : decode M.2.1 pc = .ok (.putfield 297, 3)) (ho : isO h t 10) (kk : AW Γ l M d b (pc + 3) L S (upd2 h.1 t 20 x, h.2) K) : AW Γ l M d b pc L (vI x :: vR t :: S) h K :=
  aw_putf0 (ci := 10) (C := RX12) (T := TX12) (N := 34) (k := 20) (q := (0, 20)) (h' := (upd2 h.1 t 20 x, h.2)) tyX12 dg rfl (by decide) rfl (fun hown hts hnw => Or.inl (by rw [hM]; exact hts _ flX12_297)) inX12 tyX12_ok nmX12 rfl rfl rfl rfl ho (fun t' q => entS_upd q) rfl (flv_upd (ci := 10) (k := 20) (q := (0, 20)) rfl (Or.inl rfl)) kk
theorem flX12_300 : Cond.fieldLink RX12 300 RX12 (TX12 21).2.1 (TX12 21).2.2.1 ∈ gw := tm6 153 (by decide +kernel) (by decide +kernel)
theorem gfX12_300 {Γ : Cfg} {l : Launch} {M : MT} {d b pc : Nat} {L S : List AV} {h : HP} {K : Ou → HP → Prop} {t : Int} (hM : M.1 = RX12) (dg : decode M.2.1 pc = .ok (.getfield 300, 3)) (ho : isO h t 10) (kk : AW Γ l M d b (pc + 3) L (vI (h.1 t 21) :: S) h K) : AW Γ l M d b pc L (vR t :: S) h K :=
  aw_getf0 (ci := 10) (C := RX12) (T := TX12) (N := 34) (k := 21) (q := (0, 21)) dg rfl (by decide) rfl (fun hown hts hnw => Or.inl (by rw [hM]; exact hts _ flX12_300)) inX12 rfl ho kk
theorem pfX12_300 {Γ : Cfg} {l : Launch} {M : MT} {d b pc : Nat} {L S : List AV} {h : HP} {K : Ou → HP → Prop} {t x : Int} (hM : M.1 = RX12) (dg : decode M.2.1 pc = .ok (.putfield 300, 3)) (ho : isO h t 10) (kk : AW Γ l M d b (pc + 3) L S (upd2 h.1 t 21 x, h.2) K) : AW Γ l M d b pc L (vI x :: vR t :: S) h K :=
  aw_putf0 (ci := 10) (C := RX12) (T := TX12) (N := 34) (k := 21) (q := (0, 21)) (h' := (upd2 h.1 t 21 x, h.2)) tyX12 dg rfl (by decide) rfl (fun hown hts hnw => Or.inl (by rw [hM]; exact hts _ flX12_300)) inX12 tyX12_ok nmX12 rfl rfl rfl rfl ho (fun t' q => entS_upd q) rfl (flv_upd (ci := 10) (k := 21) (q := (0, 21)) rfl (Or.inl rfl)) kk
theorem flX12_348 : Cond.fieldLink RX12 348 RX12 (TX12 24).2.1 (TX12 24).2.2.1 ∈ gw := tm6 156 (by decide +kernel) (by decide +kernel)
theorem gfX12_348 {Γ : Cfg} {l : Launch} {M : MT} {d b pc : Nat} {L S : List AV} {h : HP} {K : Ou → HP → Prop} {t : Int} (hM : M.1 = RX12) (dg : decode M.2.1 pc = .ok (.getfield 348, 3)) (ho : isO h t 10) (kk : AW Γ l M d b (pc + 3) L (vI (h.1 t 24) :: S) h K) : AW Γ l M d b pc L (vR t :: S) h K :=
  aw_getf0 (ci := 10) (C := RX12) (T := TX12) (N := 34) (k := 24) (q := (0, 24)) dg rfl (by decide) rfl (fun hown hts hnw => Or.inl (by rw [hM]; exact hts _ flX12_348)) inX12 rfl ho kk
theorem pfX12_348 {Γ : Cfg} {l : Launch} {M : MT} {d b pc : Nat} {L S : List AV} {h : HP} {K : Ou → HP → Prop} {t x : Int} (hM : M.1 = RX12) (dg : decode M.2.1 pc = .ok (.putfield 348, 3)) (ho : isO h t 10) (kk : AW Γ l M d b (pc + 3) L S (upd2 h.1 t 24 x, h.2) K) : AW Γ l M d b pc L (vI x :: vR t :: S) h K :=
  aw_putf0 (ci := 10) (C := RX12) (T := TX12) (N := 34) (k := 24) (q := (0, 24)) (h' := (upd2 h.1 t 24 x, h.2)) tyX12 dg rfl (by decide) rfl (fun hown hts hnw => Or.inl (by rw [hM]; exact hts _ flX12_348)) inX12 tyX12_ok nmX12 rfl rfl rfl rfl ho (fun t' q => entS_upd q) rfl (flv_upd (ci := 10) (k := 24) (q := (0, 24)) rfl (Or.inl rfl)) kk
theorem flX12_420 : Cond.fieldLink RX12 420 RX12 (TX12 27).2.1 (TX12 27).2.2.1 ∈ gw := tm6 159 (by decide +kernel) (by decide +kernel)
theorem gfX12_420 {Γ : Cfg} {l : Launch} {M : MT} {d b pc : Nat} {L S : List AV} {h : HP} {K : Ou → HP → Prop} {t : Int} (hM : M.1 = RX12) (dg : decode M.2.1 pc = .ok (.getfield 420, 3)) (ho : isO h t 10) (kk : AW Γ l M d b (pc + 3) L (vI (h.1 t 27) :: S) h K) : AW Γ l M d b pc L (vR t :: S) h K :=
  aw_getf0 (ci := 10) (C := RX12) (T := TX12) (N := 34) (k := 27) (q := (0, 27)) dg rfl (by decide) rfl (fun hown hts hnw => Or.inl (by rw [hM]; exact hts _ flX12_420)) inX12 rfl ho kk
theorem pfX12_420 {Γ : Cfg} {l : Launch} {M : MT} {d b pc : Nat} {L S : List AV} {h : HP} {K : Ou → HP → Prop} {t x : Int} (hM : M.1 = RX12) (dg : decode M.2.1 pc = .ok (.putfield 420, 3)) (ho : isO h t 10) (kk : AW Γ l M d b (pc + 3) L S (upd2 h.1 t 27 x, h.2) K) : AW Γ l M d b pc L (vI x :: vR t :: S) h K :=
  aw_putf0 (ci := 10) (C := RX12) (T := TX12) (N := 34) (k := 27) (q := (0, 27)) (h' := (upd2 h.1 t 27 x, h.2)) tyX12 dg rfl (by decide) rfl (fun hown hts hnw => Or.inl (by rw [hM]; exact hts _ flX12_420)) inX12 tyX12_ok nmX12 rfl rfl rfl rfl ho (fun t' q => entS_upd q) rfl (flv_upd (ci := 10) (k := 27) (q := (0, 27)) rfl (Or.inl rfl)) kk
abbrev mX0_init : MT := (RX0, cX0_init, 1, none, "<init>", [])
theorem cwX0_init {M : MT} {i : Nat} : callW M i yX0_init mX0_init 0 := ⟨tm1 228 (by decide +kernel) (by decide +kernel), tm1 9 (by decide +kernel) (by decide +kernel), ⟨(by decide +kernel), (by decide +kernel)⟩, (by decide +kernel), by decide⟩
theorem imX0_init : Cond.instanceMethod yX0_init ∈ gw := tm1 227 (by decide +kernel) (by decide +kernel)
abbrev mX0_clear : MT := (RX0, cX0_clear, 1, none, "clear", [])
theorem cwX0_clear {M : MT} {i : Nat} : callW M i yX0_clear mX0_clear 0 := ⟨tm2 214 (by decide +kernel) (by decide +kernel), tm1 9 (by decide +kernel) (by decide +kernel), ⟨(by decide +kernel), (by decide +kernel)⟩, (by decide +kernel), by decide⟩
theorem imX0_clear : Cond.instanceMethod yX0_clear ∈ gw := tm2 212 (by decide +kernel) (by decide +kernel)
theorem seX0_clear : Cond.selects RX0 yX0_clear yX0_clear ∈ gw := tm2 213 (by decide +kernel) (by decide +kernel)
abbrev mX0_take : MT := (RX0, cX0_take, 3, none, "take", [])
theorem cwX0_take {M : MT} {i : Nat} : callW M i yX0_take mX0_take 2 := ⟨tm2 226 (by decide +kernel) (by decide +kernel), tm1 9 (by decide +kernel) (by decide +kernel), ⟨(by decide +kernel), (by decide +kernel)⟩, (by decide +kernel), by decide⟩
theorem imX0_take : Cond.instanceMethod yX0_take ∈ gw := tm2 224 (by decide +kernel) (by decide +kernel)
theorem seX0_take : Cond.selects RX0 yX0_take yX0_take ∈ gw := tm2 225 (by decide +kernel) (by decide +kernel)
abbrev mX0_lay : MT := (RX0, cX0_lay, 2, none, "lay", [])
theorem cwX0_lay {M : MT} {i : Nat} : callW M i yX0_lay mX0_lay 1 := ⟨tm2 219 (by decide +kernel) (by decide +kernel), tm1 9 (by decide +kernel) (by decide +kernel), ⟨(by decide +kernel), (by decide +kernel)⟩, (by decide +kernel), by decide⟩
theorem imX0_lay : Cond.instanceMethod yX0_lay ∈ gw := tm2 217 (by decide +kernel) (by decide +kernel)
theorem seX0_lay : Cond.selects RX0 yX0_lay yX0_lay ∈ gw := tm2 218 (by decide +kernel) (by decide +kernel)
abbrev mX0_base : MT := (RX0, cX0_base, 2, (some .int), "base", [])
theorem cwX0_base {M : MT} {i : Nat} : callW M i yX0_base mX0_base 0 := ⟨tm3 14 (by decide +kernel) (by decide +kernel), tm1 9 (by decide +kernel) (by decide +kernel), ⟨(by decide +kernel), (by decide +kernel)⟩, (by decide +kernel), by decide⟩
theorem imX0_base : Cond.instanceMethod yX0_base ∈ gw := tm3 12 (by decide +kernel) (by decide +kernel)
theorem seX0_base : Cond.selects RX0 yX0_base yX0_base ∈ gw := tm3 13 (by decide +kernel) (by decide +kernel)
abbrev mX1_init : MT := (RX1, cX1_init, 2, none, "<init>", [])
theorem cwX1_init {M : MT} {i : Nat} : callW M i yX1_init mX1_init 1 := ⟨tm2 40 (by decide +kernel) (by decide +kernel), tm1 10 (by decide +kernel) (by decide +kernel), ⟨(by decide +kernel), (by decide +kernel)⟩, (by decide +kernel), by decide⟩
theorem imX1_init : Cond.instanceMethod yX1_init ∈ gw := tm2 39 (by decide +kernel) (by decide +kernel)
abbrev mX1_passHours : MT := (RX1, cX1_passHours, 6, (some .int), "passHours", [])
theorem cwX1_passHours {M : MT} {i : Nat} : callW M i yX1_passHours mX1_passHours 2 := ⟨tm5 39 (by decide +kernel) (by decide +kernel), tm1 10 (by decide +kernel) (by decide +kernel), ⟨(by decide +kernel), (by decide +kernel)⟩, (by decide +kernel), by decide⟩
theorem imX1_passHours : Cond.instanceMethod yX1_passHours ∈ gw := tm5 37 (by decide +kernel) (by decide +kernel)
theorem seX1_passHours : Cond.selects RX1 yX1_passHours yX1_passHours ∈ gw := tm5 38 (by decide +kernel) (by decide +kernel)
abbrev mX1_speakOn : MT := (RX1, cX1_speakOn, 4, none, "speakOn", [])
theorem cwX1_speakOn {M : MT} {i : Nat} : callW M i yX1_speakOn mX1_speakOn 2 := ⟨tm5 44 (by decide +kernel) (by decide +kernel), tm1 10 (by decide +kernel) (by decide +kernel), ⟨(by decide +kernel), (by decide +kernel)⟩, (by decide +kernel), by decide⟩
theorem imX1_speakOn : Cond.instanceMethod yX1_speakOn ∈ gw := tm5 43 (by decide +kernel) (by decide +kernel)
theorem seX1_speakOn : Cond.selects RX1 yX1_speakOn yX1_speakOn ∈ gw := pv_mem (y := yX1_speakOn) (n := 1) 19 (by decide +kernel) (by decide +kernel)
abbrev mX1_breakIn : MT := (RX1, cX1_breakIn, 6, (some .int), "breakIn", [])
theorem cwX1_breakIn {M : MT} {i : Nat} : callW M i yX1_breakIn mX1_breakIn 3 := ⟨tm5 53 (by decide +kernel) (by decide +kernel), tm1 10 (by decide +kernel) (by decide +kernel), ⟨(by decide +kernel), (by decide +kernel)⟩, (by decide +kernel), by decide⟩
theorem imX1_breakIn : Cond.instanceMethod yX1_breakIn ∈ gw := tm5 51 (by decide +kernel) (by decide +kernel)
theorem seX1_breakIn : Cond.selects RX1 yX1_breakIn yX1_breakIn ∈ gw := tm5 52 (by decide +kernel) (by decide +kernel)
abbrev mX1_countBehind : MT := (RX1, cX1_countBehind, 5, (some .int), "countBehind", [])
theorem cwX1_countBehind {M : MT} {i : Nat} : callW M i yX1_countBehind mX1_countBehind 4 := ⟨tm5 61 (by decide +kernel) (by decide +kernel), tm1 10 (by decide +kernel) (by decide +kernel), ⟨(by decide +kernel), (by decide +kernel)⟩, (by decide +kernel), by decide⟩
theorem stX1_countBehind : Cond.static yX1_countBehind ∈ gw := tm5 60 (by decide +kernel) (by decide +kernel)
abbrev mX1_letFinish : MT := (RX1, cX1_letFinish, 5, (some .int), "letFinish", [])
theorem cwX1_letFinish {M : MT} {i : Nat} : callW M i yX1_letFinish mX1_letFinish 2 := ⟨tm5 68 (by decide +kernel) (by decide +kernel), tm1 10 (by decide +kernel) (by decide +kernel), ⟨(by decide +kernel), (by decide +kernel)⟩, (by decide +kernel), by decide⟩
theorem imX1_letFinish : Cond.instanceMethod yX1_letFinish ∈ gw := tm5 66 (by decide +kernel) (by decide +kernel)
theorem seX1_letFinish : Cond.selects RX1 yX1_letFinish yX1_letFinish ∈ gw := tm5 67 (by decide +kernel) (by decide +kernel)
abbrev mX2_init : MT := (RX2, cX2_init, 1, none, "<init>", [])
theorem cwX2_init {M : MT} {i : Nat} : callW M i yX2_init mX2_init 0 := ⟨tm1 95 (by decide +kernel) (by decide +kernel), tm1 6 (by decide +kernel) (by decide +kernel), ⟨(by decide +kernel), (by decide +kernel)⟩, (by decide +kernel), by decide⟩
theorem imX2_init : Cond.instanceMethod yX2_init ∈ gw := tm1 94 (by decide +kernel) (by decide +kernel)
abbrev mX2_copy : MT := (RX2, cX2_copy, 2, none, "copy", [])
theorem cwX2_copy {M : MT} {i : Nat} : callW M i yX2_copy mX2_copy 1 := ⟨tm3 58 (by decide +kernel) (by decide +kernel), tm1 6 (by decide +kernel) (by decide +kernel), ⟨(by decide +kernel), (by decide +kernel)⟩, (by decide +kernel), by decide⟩
theorem imX2_copy : Cond.instanceMethod yX2_copy ∈ gw := tm3 56 (by decide +kernel) (by decide +kernel)
theorem seX2_copy : Cond.selects RX2 yX2_copy yX2_copy ∈ gw := tm3 57 (by decide +kernel) (by decide +kernel)
abbrev mX2_has : MT := (RX2, cX2_has, 2, (some .boolean), "has", [])
theorem cwX2_has {M : MT} {i : Nat} : callW M i yX2_has mX2_has 1 := ⟨tm4 168 (by decide +kernel) (by decide +kernel), tm1 6 (by decide +kernel) (by decide +kernel), ⟨(by decide +kernel), (by decide +kernel)⟩, (by decide +kernel), by decide⟩
theorem imX2_has : Cond.instanceMethod yX2_has ∈ gw := tm4 166 (by decide +kernel) (by decide +kernel)
theorem seX2_has : Cond.selects RX2 yX2_has yX2_has ∈ gw := tm4 167 (by decide +kernel) (by decide +kernel)
abbrev mX2_wordAt : MT := (RX2, cX2_wordAt, 3, (some .int), "wordAt", [])
theorem cwX2_wordAt {M : MT} {i : Nat} : callW M i yX2_wordAt mX2_wordAt 2 := ⟨tm3 42 (by decide +kernel) (by decide +kernel), tm1 6 (by decide +kernel) (by decide +kernel), ⟨(by decide +kernel), (by decide +kernel)⟩, (by decide +kernel), by decide⟩
theorem imX2_wordAt : Cond.instanceMethod yX2_wordAt ∈ gw := tm3 40 (by decide +kernel) (by decide +kernel)
theorem seX2_wordAt : Cond.selects RX2 yX2_wordAt yX2_wordAt ∈ gw := tm3 41 (by decide +kernel) (by decide +kernel)
abbrev mX2_kindAt : MT := (RX2, cX2_kindAt, 3, (some .int), "kindAt", [])
theorem cwX2_kindAt {M : MT} {i : Nat} : callW M i yX2_kindAt mX2_kindAt 2 := ⟨tm5 180 (by decide +kernel) (by decide +kernel), tm1 6 (by decide +kernel) (by decide +kernel), ⟨(by decide +kernel), (by decide +kernel)⟩, (by decide +kernel), by decide⟩
theorem imX2_kindAt : Cond.instanceMethod yX2_kindAt ∈ gw := tm5 178 (by decide +kernel) (by decide +kernel)
theorem seX2_kindAt : Cond.selects RX2 yX2_kindAt yX2_kindAt ∈ gw := tm5 179 (by decide +kernel) (by decide +kernel)
abbrev mX2_alikeFirst : MT := (RX2, cX2_alikeFirst, 5, (some .int), "alikeFirst", [])
theorem cwX2_alikeFirst {M : MT} {i : Nat} : callW M i yX2_alikeFirst mX2_alikeFirst 2 := ⟨tm3 37 (by decide +kernel) (by decide +kernel), tm1 6 (by decide +kernel) (by decide +kernel), ⟨(by decide +kernel), (by decide +kernel)⟩, (by decide +kernel), by decide⟩
theorem imX2_alikeFirst : Cond.instanceMethod yX2_alikeFirst ∈ gw := tm3 35 (by decide +kernel) (by decide +kernel)
theorem seX2_alikeFirst : Cond.selects RX2 yX2_alikeFirst yX2_alikeFirst ∈ gw := tm3 36 (by decide +kernel) (by decide +kernel)
abbrev mX2_alikeInAll : MT := (RX2, cX2_alikeInAll, 6, (some .int), "alikeInAll", [])
theorem cwX2_alikeInAll {M : MT} {i : Nat} : callW M i yX2_alikeInAll mX2_alikeInAll 2 := ⟨tm6 59 (by decide +kernel) (by decide +kernel), tm1 6 (by decide +kernel) (by decide +kernel), ⟨(by decide +kernel), (by decide +kernel)⟩, (by decide +kernel), by decide⟩
theorem imX2_alikeInAll : Cond.instanceMethod yX2_alikeInAll ∈ gw := tm6 57 (by decide +kernel) (by decide +kernel)
theorem seX2_alikeInAll : Cond.selects RX2 yX2_alikeInAll yX2_alikeInAll ∈ gw := tm6 58 (by decide +kernel) (by decide +kernel)
abbrev mX2_copyOath : MT := (RX2, cX2_copyOath, 4, none, "copyOath", [])
theorem cwX2_copyOath {M : MT} {i : Nat} : callW M i yX2_copyOath mX2_copyOath 2 := ⟨tm5 159 (by decide +kernel) (by decide +kernel), tm1 6 (by decide +kernel) (by decide +kernel), ⟨(by decide +kernel), (by decide +kernel)⟩, (by decide +kernel), by decide⟩
theorem imX2_copyOath : Cond.instanceMethod yX2_copyOath ∈ gw := tm5 157 (by decide +kernel) (by decide +kernel)
theorem seX2_copyOath : Cond.selects RX2 yX2_copyOath yX2_copyOath ∈ gw := tm5 158 (by decide +kernel) (by decide +kernel)
abbrev mX2_hoursNeed : MT := (RX2, cX2_hoursNeed, 3, (some .int), "hoursNeed", [])
theorem cwX2_hoursNeed {M : MT} {i : Nat} : callW M i yX2_hoursNeed mX2_hoursNeed 1 := ⟨tm4 196 (by decide +kernel) (by decide +kernel), tm1 6 (by decide +kernel) (by decide +kernel), ⟨(by decide +kernel), (by decide +kernel)⟩, (by decide +kernel), by decide⟩
theorem imX2_hoursNeed : Cond.instanceMethod yX2_hoursNeed ∈ gw := tm4 194 (by decide +kernel) (by decide +kernel)
theorem seX2_hoursNeed : Cond.selects RX2 yX2_hoursNeed yX2_hoursNeed ∈ gw := tm4 195 (by decide +kernel) (by decide +kernel)
abbrev mX2_heldCount : MT := (RX2, cX2_heldCount, 2, (some .int), "heldCount", [])
theorem cwX2_heldCount {M : MT} {i : Nat} : callW M i yX2_heldCount mX2_heldCount 1 := ⟨tm2 202 (by decide +kernel) (by decide +kernel), tm1 6 (by decide +kernel) (by decide +kernel), ⟨(by decide +kernel), (by decide +kernel)⟩, (by decide +kernel), by decide⟩
theorem imX2_heldCount : Cond.instanceMethod yX2_heldCount ∈ gw := tm2 200 (by decide +kernel) (by decide +kernel)
theorem seX2_heldCount : Cond.selects RX2 yX2_heldCount yX2_heldCount ∈ gw := tm2 201 (by decide +kernel) (by decide +kernel)
abbrev mX2_bitsOf : MT := (RX2, cX2_bitsOf, 4, (some .int), "bitsOf", [])
theorem cwX2_bitsOf {M : MT} {i : Nat} : callW M i yX2_bitsOf mX2_bitsOf 1 := ⟨tm2 182 (by decide +kernel) (by decide +kernel), tm1 6 (by decide +kernel) (by decide +kernel), ⟨(by decide +kernel), (by decide +kernel)⟩, (by decide +kernel), by decide⟩
theorem imX2_bitsOf : Cond.instanceMethod yX2_bitsOf ∈ gw := tm2 180 (by decide +kernel) (by decide +kernel)
theorem seX2_bitsOf : Cond.selects RX2 yX2_bitsOf yX2_bitsOf ∈ gw := tm2 181 (by decide +kernel) (by decide +kernel)
abbrev mX2_oddsBehind : MT := (RX2, cX2_oddsBehind, 3, (some .int), "oddsBehind", [])
theorem cwX2_oddsBehind {M : MT} {i : Nat} : callW M i yX2_oddsBehind mX2_oddsBehind 2 := ⟨tm5 203 (by decide +kernel) (by decide +kernel), tm1 6 (by decide +kernel) (by decide +kernel), ⟨(by decide +kernel), (by decide +kernel)⟩, (by decide +kernel), by decide⟩
theorem imX2_oddsBehind : Cond.instanceMethod yX2_oddsBehind ∈ gw := tm5 201 (by decide +kernel) (by decide +kernel)
theorem seX2_oddsBehind : Cond.selects RX2 yX2_oddsBehind yX2_oddsBehind ∈ gw := tm5 202 (by decide +kernel) (by decide +kernel)
abbrev mX2_settle : MT := (RX2, cX2_settle, 4, none, "settle", [])
theorem cwX2_settle {M : MT} {i : Nat} : callW M i yX2_settle mX2_settle 3 := ⟨tm3 216 (by decide +kernel) (by decide +kernel), tm1 6 (by decide +kernel) (by decide +kernel), ⟨(by decide +kernel), (by decide +kernel)⟩, (by decide +kernel), by decide⟩
theorem imX2_settle : Cond.instanceMethod yX2_settle ∈ gw := tm3 214 (by decide +kernel) (by decide +kernel)
theorem seX2_settle : Cond.selects RX2 yX2_settle yX2_settle ∈ gw := tm3 215 (by decide +kernel) (by decide +kernel)
abbrev mX2_note : MT := (RX2, cX2_note, 6, none, "note", [])
theorem cwX2_note {M : MT} {i : Nat} : callW M i yX2_note mX2_note 4 := ⟨tm5 58 (by decide +kernel) (by decide +kernel), tm1 6 (by decide +kernel) (by decide +kernel), ⟨(by decide +kernel), (by decide +kernel)⟩, (by decide +kernel), by decide⟩
theorem imX2_note : Cond.instanceMethod yX2_note ∈ gw := tm5 56 (by decide +kernel) (by decide +kernel)
theorem seX2_note : Cond.selects RX2 yX2_note yX2_note ∈ gw := tm5 57 (by decide +kernel) (by decide +kernel)
abbrev mX2_draw : MT := (RX2, cX2_draw, 1, (some .int), "draw", [])
theorem cwX2_draw {M : MT} {i : Nat} : callW M i yX2_draw mX2_draw 0 := ⟨tm5 48 (by decide +kernel) (by decide +kernel), tm1 6 (by decide +kernel) (by decide +kernel), ⟨(by decide +kernel), (by decide +kernel)⟩, (by decide +kernel), by decide⟩
theorem imX2_draw : Cond.instanceMethod yX2_draw ∈ gw := tm5 46 (by decide +kernel) (by decide +kernel)
theorem seX2_draw : Cond.selects RX2 yX2_draw yX2_draw ∈ gw := tm5 47 (by decide +kernel) (by decide +kernel)
abbrev mX3_readText : MT := (RX3, cX3_readText, 3, (some .boolean), "readText", [])
theorem cwX3_readText {M : MT} {i : Nat} : callW M i yX3_readText mX3_readText 2 := ⟨tm3 194 (by decide +kernel) (by decide +kernel), tm1 19 (by decide +kernel) (by decide +kernel), ⟨(by decide +kernel), (by decide +kernel)⟩, (by decide +kernel), by decide⟩
theorem stX3_readText : Cond.static yX3_readText ∈ gw := tm3 193 (by decide +kernel) (by decide +kernel)
abbrev mX3_readLine : MT := (RX3, cX3_readLine, 3, (some .boolean), "readLine", [])
theorem cwX3_readLine {M : MT} {i : Nat} : callW M i yX3_readLine mX3_readLine 2 := ⟨tm3 198 (by decide +kernel) (by decide +kernel), tm1 19 (by decide +kernel) (by decide +kernel), ⟨(by decide +kernel), (by decide +kernel)⟩, (by decide +kernel), by decide⟩
theorem stX3_readLine : Cond.static yX3_readLine ∈ gw := tm3 197 (by decide +kernel) (by decide +kernel)
abbrev mX3_readMode : MT := (RX3, cX3_readMode, 3, (some .boolean), "readMode", [])
theorem cwX3_readMode {M : MT} {i : Nat} : callW M i yX3_readMode mX3_readMode 2 := ⟨tm3 229 (by decide +kernel) (by decide +kernel), tm1 19 (by decide +kernel) (by decide +kernel), ⟨(by decide +kernel), (by decide +kernel)⟩, (by decide +kernel), by decide⟩
theorem stX3_readMode : Cond.static yX3_readMode ∈ gw := tm3 228 (by decide +kernel) (by decide +kernel)
abbrev mX3_readOath : MT := (RX3, cX3_readOath, 3, (some .boolean), "readOath", [])
theorem cwX3_readOath {M : MT} {i : Nat} : callW M i yX3_readOath mX3_readOath 2 := ⟨tm3 203 (by decide +kernel) (by decide +kernel), tm1 19 (by decide +kernel) (by decide +kernel), ⟨(by decide +kernel), (by decide +kernel)⟩, (by decide +kernel), by decide⟩
theorem stX3_readOath : Cond.static yX3_readOath ∈ gw := tm3 202 (by decide +kernel) (by decide +kernel)
abbrev mX3_readExtra : MT := (RX3, cX3_readExtra, 5, (some .boolean), "readExtra", [])
theorem cwX3_readExtra {M : MT} {i : Nat} : callW M i yX3_readExtra mX3_readExtra 5 := ⟨tm3 222 (by decide +kernel) (by decide +kernel), tm1 19 (by decide +kernel) (by decide +kernel), ⟨(by decide +kernel), (by decide +kernel)⟩, (by decide +kernel), by decide⟩
theorem stX3_readExtra : Cond.static yX3_readExtra ∈ gw := tm3 221 (by decide +kernel) (by decide +kernel)
abbrev mX3_readWords : MT := (RX3, cX3_readWords, 7, (some .boolean), "readWords", [])
theorem cwX3_readWords {M : MT} {i : Nat} : callW M i yX3_readWords mX3_readWords 3 := ⟨tm3 207 (by decide +kernel) (by decide +kernel), tm1 19 (by decide +kernel) (by decide +kernel), ⟨(by decide +kernel), (by decide +kernel)⟩, (by decide +kernel), by decide⟩
theorem stX3_readWords : Cond.static yX3_readWords ∈ gw := tm3 206 (by decide +kernel) (by decide +kernel)
abbrev mX4_init : MT := (RX4, cX4_init, 1, none, "<init>", [])
theorem cwX4_init {M : MT} {i : Nat} : callW M i yX4_init mX4_init 0 := ⟨tm1 185 (by decide +kernel) (by decide +kernel), tm1 7 (by decide +kernel) (by decide +kernel), ⟨(by decide +kernel), (by decide +kernel)⟩, (by decide +kernel), by decide⟩
theorem imX4_init : Cond.instanceMethod yX4_init ∈ gw := tm1 184 (by decide +kernel) (by decide +kernel)
abbrev mX4_copy : MT := (RX4, cX4_copy, 2, none, "copy", [])
theorem cwX4_copy {M : MT} {i : Nat} : callW M i yX4_copy mX4_copy 1 := ⟨tm3 69 (by decide +kernel) (by decide +kernel), tm1 7 (by decide +kernel) (by decide +kernel), ⟨(by decide +kernel), (by decide +kernel)⟩, (by decide +kernel), by decide⟩
theorem imX4_copy : Cond.instanceMethod yX4_copy ∈ gw := tm3 67 (by decide +kernel) (by decide +kernel)
theorem seX4_copy : Cond.selects RX4 yX4_copy yX4_copy ∈ gw := tm3 68 (by decide +kernel) (by decide +kernel)
abbrev mX4_readText : MT := (RX4, cX4_readText, 4, (some .boolean), "readText", [])
theorem cwX4_readText {M : MT} {i : Nat} : callW M i yX4_readText mX4_readText 1 := ⟨tm4 94 (by decide +kernel) (by decide +kernel), tm1 7 (by decide +kernel) (by decide +kernel), ⟨(by decide +kernel), (by decide +kernel)⟩, (by decide +kernel), by decide⟩
theorem imX4_readText : Cond.instanceMethod yX4_readText ∈ gw := tm4 92 (by decide +kernel) (by decide +kernel)
theorem seX4_readText : Cond.selects RX4 yX4_readText yX4_readText ∈ gw := tm4 93 (by decide +kernel) (by decide +kernel)
abbrev mX4_lineStep : MT := (RX4, cX4_lineStep, 1, (some .int), "lineStep", [])
theorem cwX4_lineStep {M : MT} {i : Nat} : callW M i yX4_lineStep mX4_lineStep 1 := ⟨tm4 98 (by decide +kernel) (by decide +kernel), tm1 7 (by decide +kernel) (by decide +kernel), ⟨(by decide +kernel), (by decide +kernel)⟩, (by decide +kernel), by decide⟩
theorem stX4_lineStep : Cond.static yX4_lineStep ∈ gw := tm4 97 (by decide +kernel) (by decide +kernel)
abbrev mX4_readAny : MT := (RX4, cX4_readAny, 4, (some .boolean), "readAny", [])
theorem cwX4_readAny {M : MT} {i : Nat} : callW M i yX4_readAny mX4_readAny 3 := ⟨tm4 115 (by decide +kernel) (by decide +kernel), tm1 7 (by decide +kernel) (by decide +kernel), ⟨(by decide +kernel), (by decide +kernel)⟩, (by decide +kernel), by decide⟩
theorem stX4_readAny : Cond.static yX4_readAny ∈ gw := tm4 114 (by decide +kernel) (by decide +kernel)
abbrev mX4_readAll : MT := (RX4, cX4_readAll, 4, (some .boolean), "readAll", [])
theorem cwX4_readAll {M : MT} {i : Nat} : callW M i yX4_readAll mX4_readAll 3 := ⟨tm4 118 (by decide +kernel) (by decide +kernel), tm1 7 (by decide +kernel) (by decide +kernel), ⟨(by decide +kernel), (by decide +kernel)⟩, (by decide +kernel), by decide⟩
theorem stX4_readAll : Cond.static yX4_readAll ∈ gw := tm4 117 (by decide +kernel) (by decide +kernel)
abbrev mX4_readAtom : MT := (RX4, cX4_readAtom, 4, (some .boolean), "readAtom", [])
theorem cwX4_readAtom {M : MT} {i : Nat} : callW M i yX4_readAtom mX4_readAtom 3 := ⟨tm4 121 (by decide +kernel) (by decide +kernel), tm1 7 (by decide +kernel) (by decide +kernel), ⟨(by decide +kernel), (by decide +kernel)⟩, (by decide +kernel), by decide⟩
theorem stX4_readAtom : Cond.static yX4_readAtom ∈ gw := tm4 120 (by decide +kernel) (by decide +kernel)
abbrev mX4_readComparison : MT := (RX4, cX4_readComparison, 5, (some .boolean), "readComparison", [])
theorem cwX4_readComparison {M : MT} {i : Nat} : callW M i yX4_readComparison mX4_readComparison 2 := ⟨tm4 134 (by decide +kernel) (by decide +kernel), tm1 7 (by decide +kernel) (by decide +kernel), ⟨(by decide +kernel), (by decide +kernel)⟩, (by decide +kernel), by decide⟩
theorem stX4_readComparison : Cond.static yX4_readComparison ∈ gw := tm4 133 (by decide +kernel) (by decide +kernel)
abbrev mX4_emitPart : MT := (RX4, cX4_emitPart, 4, (some .boolean), "emitPart", [])
theorem cwX4_emitPart {M : MT} {i : Nat} : callW M i yX4_emitPart mX4_emitPart 2 := ⟨tm4 138 (by decide +kernel) (by decide +kernel), tm1 7 (by decide +kernel) (by decide +kernel), ⟨(by decide +kernel), (by decide +kernel)⟩, (by decide +kernel), by decide⟩
theorem imX4_emitPart : Cond.instanceMethod yX4_emitPart ∈ gw := tm4 137 (by decide +kernel) (by decide +kernel)
theorem seX4_emitPart : Cond.selects RX4 yX4_emitPart yX4_emitPart ∈ gw := pv_mem (y := yX4_emitPart) (n := 8) 11 (by decide +kernel) (by decide +kernel)
abbrev mX4_emit : MT := (RX4, cX4_emit, 3, none, "emit", [])
theorem cwX4_emit {M : MT} {i : Nat} : callW M i yX4_emit mX4_emit 2 := ⟨tm4 112 (by decide +kernel) (by decide +kernel), tm1 7 (by decide +kernel) (by decide +kernel), ⟨(by decide +kernel), (by decide +kernel)⟩, (by decide +kernel), by decide⟩
theorem imX4_emit : Cond.instanceMethod yX4_emit ∈ gw := tm4 111 (by decide +kernel) (by decide +kernel)
theorem seX4_emit : Cond.selects RX4 yX4_emit yX4_emit ∈ gw := pv_mem (y := yX4_emit) (n := 8) 10 (by decide +kernel) (by decide +kernel)
abbrev mX4_judge : MT := (RX4, cX4_judge, 6, none, "judge", [])
theorem cwX4_judge {M : MT} {i : Nat} : callW M i yX4_judge mX4_judge 1 := ⟨tm3 1 (by decide +kernel) (by decide +kernel), tm1 7 (by decide +kernel) (by decide +kernel), ⟨(by decide +kernel), (by decide +kernel)⟩, (by decide +kernel), by decide⟩
theorem imX4_judge : Cond.instanceMethod yX4_judge ∈ gw := tm2 239 (by decide +kernel) (by decide +kernel)
theorem seX4_judge : Cond.selects RX4 yX4_judge yX4_judge ∈ gw := tm3 0 (by decide +kernel) (by decide +kernel)
abbrev mX4_join : MT := (RX4, cX4_join, 3, (some .int), "join", [])
theorem cwX4_join {M : MT} {i : Nat} : callW M i yX4_join mX4_join 3 := ⟨tm3 6 (by decide +kernel) (by decide +kernel), tm1 7 (by decide +kernel) (by decide +kernel), ⟨(by decide +kernel), (by decide +kernel)⟩, (by decide +kernel), by decide⟩
theorem stX4_join : Cond.static yX4_join ∈ gw := tm3 5 (by decide +kernel) (by decide +kernel)
abbrev mX4_addLine : MT := (RX4, cX4_addLine, 3, none, "addLine", [])
theorem cwX4_addLine {M : MT} {i : Nat} : callW M i yX4_addLine mX4_addLine 2 := ⟨tm3 10 (by decide +kernel) (by decide +kernel), tm1 7 (by decide +kernel) (by decide +kernel), ⟨(by decide +kernel), (by decide +kernel)⟩, (by decide +kernel), by decide⟩
theorem imX4_addLine : Cond.instanceMethod yX4_addLine ∈ gw := tm3 9 (by decide +kernel) (by decide +kernel)
theorem seX4_addLine : Cond.selects RX4 yX4_addLine yX4_addLine ∈ gw := pv_mem (y := yX4_addLine) (n := 8) 3 (by decide +kernel) (by decide +kernel)
abbrev mX5_init : MT := (RX5, cX5_init, 2, none, "<init>", [])
theorem cwX5_init {M : MT} {i : Nat} : callW M i yX5_init mX5_init 1 := ⟨tm2 50 (by decide +kernel) (by decide +kernel), tm1 11 (by decide +kernel) (by decide +kernel), ⟨(by decide +kernel), (by decide +kernel)⟩, (by decide +kernel), by decide⟩
theorem imX5_init : Cond.instanceMethod yX5_init ∈ gw := tm2 49 (by decide +kernel) (by decide +kernel)
abbrev mX5_find : MT := (RX5, cX5_find, 3, (some .boolean), "find", [])
theorem cwX5_find {M : MT} {i : Nat} : callW M i yX5_find mX5_find 2 := ⟨tm5 170 (by decide +kernel) (by decide +kernel), tm1 11 (by decide +kernel) (by decide +kernel), ⟨(by decide +kernel), (by decide +kernel)⟩, (by decide +kernel), by decide⟩
theorem imX5_find : Cond.instanceMethod yX5_find ∈ gw := tm5 168 (by decide +kernel) (by decide +kernel)
theorem seX5_find : Cond.selects RX5 yX5_find yX5_find ∈ gw := tm5 169 (by decide +kernel) (by decide +kernel)
abbrev mX5_partUnits : MT := (RX5, cX5_partUnits, 5, none, "partUnits", [])
theorem cwX5_partUnits {M : MT} {i : Nat} : callW M i yX5_partUnits mX5_partUnits 1 := ⟨tm5 174 (by decide +kernel) (by decide +kernel), tm1 11 (by decide +kernel) (by decide +kernel), ⟨(by decide +kernel), (by decide +kernel)⟩, (by decide +kernel), by decide⟩
theorem imX5_partUnits : Cond.instanceMethod yX5_partUnits ∈ gw := tm5 173 (by decide +kernel) (by decide +kernel)
theorem seX5_partUnits : Cond.selects RX5 yX5_partUnits yX5_partUnits ∈ gw := pv_mem (y := yX5_partUnits) (n := 9) 21 (by decide +kernel) (by decide +kernel)
abbrev mX5_placeFrom : MT := (RX5, cX5_placeFrom, 9, none, "placeFrom", [])
theorem cwX5_placeFrom {M : MT} {i : Nat} : callW M i yX5_placeFrom mX5_placeFrom 6 := ⟨tm5 183 (by decide +kernel) (by decide +kernel), tm1 11 (by decide +kernel) (by decide +kernel), ⟨(by decide +kernel), (by decide +kernel)⟩, (by decide +kernel), by decide⟩
theorem stX5_placeFrom : Cond.static yX5_placeFrom ∈ gw := tm5 182 (by decide +kernel) (by decide +kernel)
abbrev mX5_leastOfUnit : MT := (RX5, cX5_leastOfUnit, 7, (some .int), "leastOfUnit", [])
theorem cwX5_leastOfUnit {M : MT} {i : Nat} : callW M i yX5_leastOfUnit mX5_leastOfUnit 3 := ⟨tm5 188 (by decide +kernel) (by decide +kernel), tm1 11 (by decide +kernel) (by decide +kernel), ⟨(by decide +kernel), (by decide +kernel)⟩, (by decide +kernel), by decide⟩
theorem imX5_leastOfUnit : Cond.instanceMethod yX5_leastOfUnit ∈ gw := tm5 187 (by decide +kernel) (by decide +kernel)
theorem seX5_leastOfUnit : Cond.selects RX5 yX5_leastOfUnit yX5_leastOfUnit ∈ gw := pv_mem (y := yX5_leastOfUnit) (n := 9) 22 (by decide +kernel) (by decide +kernel)
abbrev mX6_init : MT := (RX6, cX6_init, 1, none, "<init>", [])
theorem cwX6_init {M : MT} {i : Nat} : callW M i yX6_init mX6_init 0 := ⟨tm2 87 (by decide +kernel) (by decide +kernel), tm1 12 (by decide +kernel) (by decide +kernel), ⟨(by decide +kernel), (by decide +kernel)⟩, (by decide +kernel), by decide⟩
theorem imX6_init : Cond.instanceMethod yX6_init ∈ gw := tm2 86 (by decide +kernel) (by decide +kernel)
abbrev mX6_find : MT := (RX6, cX6_find, 3, none, "find", [])
theorem cwX6_find {M : MT} {i : Nat} : callW M i yX6_find mX6_find 1 := ⟨tm6 46 (by decide +kernel) (by decide +kernel), tm1 12 (by decide +kernel) (by decide +kernel), ⟨(by decide +kernel), (by decide +kernel)⟩, (by decide +kernel), by decide⟩
theorem imX6_find : Cond.instanceMethod yX6_find ∈ gw := tm6 44 (by decide +kernel) (by decide +kernel)
theorem seX6_find : Cond.selects RX6 yX6_find yX6_find ∈ gw := tm6 45 (by decide +kernel) (by decide +kernel)
abbrev mX6_pairFrom : MT := (RX6, cX6_pairFrom, 5, none, "pairFrom", [])
theorem cwX6_pairFrom {M : MT} {i : Nat} : callW M i yX6_pairFrom mX6_pairFrom 4 := ⟨tm6 50 (by decide +kernel) (by decide +kernel), tm1 12 (by decide +kernel) (by decide +kernel), ⟨(by decide +kernel), (by decide +kernel)⟩, (by decide +kernel), by decide⟩
theorem stX6_pairFrom : Cond.static yX6_pairFrom ∈ gw := tm6 49 (by decide +kernel) (by decide +kernel)
abbrev mX6_keepIfMore : MT := (RX6, cX6_keepIfMore, 3, none, "keepIfMore", [])
theorem cwX6_keepIfMore {M : MT} {i : Nat} : callW M i yX6_keepIfMore mX6_keepIfMore 1 := ⟨tm6 54 (by decide +kernel) (by decide +kernel), tm1 12 (by decide +kernel) (by decide +kernel), ⟨(by decide +kernel), (by decide +kernel)⟩, (by decide +kernel), by decide⟩
theorem imX6_keepIfMore : Cond.instanceMethod yX6_keepIfMore ∈ gw := tm6 53 (by decide +kernel) (by decide +kernel)
theorem seX6_keepIfMore : Cond.selects RX6 yX6_keepIfMore yX6_keepIfMore ∈ gw := pv_mem (y := yX6_keepIfMore) (n := 3) 28 (by decide +kernel) (by decide +kernel)
abbrev mX7_init : MT := (RX7, cX7_init, 5, none, "<init>", [])
theorem cwX7_init {M : MT} {i : Nat} : callW M i yX7_init mX7_init 1 := ⟨tm1 222 (by decide +kernel) (by decide +kernel), tm1 8 (by decide +kernel) (by decide +kernel), ⟨(by decide +kernel), (by decide +kernel)⟩, (by decide +kernel), by decide⟩
theorem imX7_init : Cond.instanceMethod yX7_init ∈ gw := tm1 221 (by decide +kernel) (by decide +kernel)
abbrev mX7_weight : MT := (RX7, cX7_weight, 4, (some .int), "weight", [])
theorem cwX7_weight {M : MT} {i : Nat} : callW M i yX7_weight mX7_weight 3 := ⟨tm2 206 (by decide +kernel) (by decide +kernel), tm1 8 (by decide +kernel) (by decide +kernel), ⟨(by decide +kernel), (by decide +kernel)⟩, (by decide +kernel), by decide⟩
theorem imX7_weight : Cond.instanceMethod yX7_weight ∈ gw := tm2 204 (by decide +kernel) (by decide +kernel)
theorem seX7_weight : Cond.selects RX7 yX7_weight yX7_weight ∈ gw := tm2 205 (by decide +kernel) (by decide +kernel)
abbrev mX7_readWords : MT := (RX7, cX7_readWords, 9, none, "readWords", [])
theorem cwX7_readWords {M : MT} {i : Nat} : callW M i yX7_readWords mX7_readWords 4 := ⟨tm2 210 (by decide +kernel) (by decide +kernel), tm1 8 (by decide +kernel) (by decide +kernel), ⟨(by decide +kernel), (by decide +kernel)⟩, (by decide +kernel), by decide⟩
theorem imX7_readWords : Cond.instanceMethod yX7_readWords ∈ gw := tm2 208 (by decide +kernel) (by decide +kernel)
theorem seX7_readWords : Cond.selects RX7 yX7_readWords yX7_readWords ∈ gw := tm2 209 (by decide +kernel) (by decide +kernel)
abbrev mX7_judge : MT := (RX7, cX7_judge, 5, (some .int), "judge", [])
theorem cwX7_judge {M : MT} {i : Nat} : callW M i yX7_judge mX7_judge 3 := ⟨tm2 230 (by decide +kernel) (by decide +kernel), tm1 8 (by decide +kernel) (by decide +kernel), ⟨(by decide +kernel), (by decide +kernel)⟩, (by decide +kernel), by decide⟩
theorem imX7_judge : Cond.instanceMethod yX7_judge ∈ gw := tm2 228 (by decide +kernel) (by decide +kernel)
theorem seX7_judge : Cond.selects RX7 yX7_judge yX7_judge ∈ gw := tm2 229 (by decide +kernel) (by decide +kernel)
abbrev mX8_isFlag : MT := (RX8, cX8_isFlag, 1, (some .boolean), "isFlag", [])
theorem cwX8_isFlag {M : MT} {i : Nat} : callW M i yX8_isFlag mX8_isFlag 0 := ⟨tm4 131 (by decide +kernel) (by decide +kernel), tm1 5 (by decide +kernel) (by decide +kernel), ⟨(by decide +kernel), (by decide +kernel)⟩, (by decide +kernel), by decide⟩
theorem imX8_isFlag : Cond.instanceMethod yX8_isFlag ∈ gw := tm4 129 (by decide +kernel) (by decide +kernel)
theorem seX8_isFlag : Cond.selects RX8 yX8_isFlag yX8_isFlag ∈ gw := tm4 130 (by decide +kernel) (by decide +kernel)
abbrev mX9_init : MT := (RX9, cX9_init, 1, none, "<init>", [])
theorem cwX9_init {M : MT} {i : Nat} : callW M i yX9_init mX9_init 0 := ⟨tm1 42 (by decide +kernel) (by decide +kernel), tm1 2 (by decide +kernel) (by decide +kernel), ⟨(by decide +kernel), (by decide +kernel)⟩, (by decide +kernel), by decide⟩
theorem imX9_init : Cond.instanceMethod yX9_init ∈ gw := tm1 41 (by decide +kernel) (by decide +kernel)
abbrev mX9_push : MT := (RX9, cX9_push, 3, none, "push", [])
theorem cwX9_push {M : MT} {i : Nat} : callW M i yX9_push mX9_push 1 := ⟨tm2 163 (by decide +kernel) (by decide +kernel), tm1 2 (by decide +kernel) (by decide +kernel), ⟨(by decide +kernel), (by decide +kernel)⟩, (by decide +kernel), by decide⟩
theorem imX9_push : Cond.instanceMethod yX9_push ∈ gw := tm2 161 (by decide +kernel) (by decide +kernel)
theorem seX9_push : Cond.selects RX9 yX9_push yX9_push ∈ gw := tm2 162 (by decide +kernel) (by decide +kernel)
abbrev mX9_takeUp : MT := (RX9, cX9_takeUp, 2, (some .int), "takeUp", [])
theorem cwX9_takeUp {M : MT} {i : Nat} : callW M i yX9_takeUp mX9_takeUp 0 := ⟨tm3 99 (by decide +kernel) (by decide +kernel), tm1 2 (by decide +kernel) (by decide +kernel), ⟨(by decide +kernel), (by decide +kernel)⟩, (by decide +kernel), by decide⟩
theorem imX9_takeUp : Cond.instanceMethod yX9_takeUp ∈ gw := tm3 97 (by decide +kernel) (by decide +kernel)
theorem seX9_takeUp : Cond.selects RX9 yX9_takeUp yX9_takeUp ∈ gw := tm3 98 (by decide +kernel) (by decide +kernel)
abbrev mX10_init : MT := (RX10, cX10_init, 1, none, "<init>", [])
theorem cwX10_init {M : MT} {i : Nat} : callW M i yX10_init mX10_init 0 := ⟨tm1 58 (by decide +kernel) (by decide +kernel), tm1 3 (by decide +kernel) (by decide +kernel), ⟨(by decide +kernel), (by decide +kernel)⟩, (by decide +kernel), by decide⟩
theorem imX10_init : Cond.instanceMethod yX10_init ∈ gw := tm1 57 (by decide +kernel) (by decide +kernel)
abbrev mX10_scan : MT := (RX10, cX10_scan, 6, none, "scan", [])
theorem cwX10_scan {M : MT} {i : Nat} : callW M i yX10_scan mX10_scan 2 := ⟨tm3 103 (by decide +kernel) (by decide +kernel), tm1 3 (by decide +kernel) (by decide +kernel), ⟨(by decide +kernel), (by decide +kernel)⟩, (by decide +kernel), by decide⟩
theorem imX10_scan : Cond.instanceMethod yX10_scan ∈ gw := tm3 101 (by decide +kernel) (by decide +kernel)
theorem seX10_scan : Cond.selects RX10 yX10_scan yX10_scan ∈ gw := tm3 102 (by decide +kernel) (by decide +kernel)
abbrev mX10_step : MT := (RX10, cX10_step, 2, none, "step", [])
theorem cwX10_step {M : MT} {i : Nat} : callW M i yX10_step mX10_step 0 := ⟨tm3 191 (by decide +kernel) (by decide +kernel), tm1 3 (by decide +kernel) (by decide +kernel), ⟨(by decide +kernel), (by decide +kernel)⟩, (by decide +kernel), by decide⟩
theorem imX10_step : Cond.instanceMethod yX10_step ∈ gw := tm3 189 (by decide +kernel) (by decide +kernel)
theorem seX10_step : Cond.selects RX10 yX10_step yX10_step ∈ gw := tm3 190 (by decide +kernel) (by decide +kernel)
abbrev mX10_tells : MT := (RX10, cX10_tells, 3, (some .boolean), "tells", [])
theorem cwX10_tells {M : MT} {i : Nat} : callW M i yX10_tells mX10_tells 2 := ⟨tm3 211 (by decide +kernel) (by decide +kernel), tm1 3 (by decide +kernel) (by decide +kernel), ⟨(by decide +kernel), (by decide +kernel)⟩, (by decide +kernel), by decide⟩
theorem imX10_tells : Cond.instanceMethod yX10_tells ∈ gw := tm3 209 (by decide +kernel) (by decide +kernel)
theorem seX10_tells : Cond.selects RX10 yX10_tells yX10_tells ∈ gw := tm3 210 (by decide +kernel) (by decide +kernel)
abbrev mX10_addSign : MT := (RX10, cX10_addSign, 4, none, "addSign", [])
theorem cwX10_addSign {M : MT} {i : Nat} : callW M i yX10_addSign mX10_addSign 3 := ⟨tm3 183 (by decide +kernel) (by decide +kernel), tm1 3 (by decide +kernel) (by decide +kernel), ⟨(by decide +kernel), (by decide +kernel)⟩, (by decide +kernel), by decide⟩
theorem imX10_addSign : Cond.instanceMethod yX10_addSign ∈ gw := tm3 182 (by decide +kernel) (by decide +kernel)
theorem seX10_addSign : Cond.selects RX10 yX10_addSign yX10_addSign ∈ gw := pv_mem (y := yX10_addSign) (n := 7) 8 (by decide +kernel) (by decide +kernel)
abbrev mX10_isLetter : MT := (RX10, cX10_isLetter, 1, (some .boolean), "isLetter", [])
theorem cwX10_isLetter {M : MT} {i : Nat} : callW M i yX10_isLetter mX10_isLetter 1 := ⟨tm3 113 (by decide +kernel) (by decide +kernel), tm1 3 (by decide +kernel) (by decide +kernel), ⟨(by decide +kernel), (by decide +kernel)⟩, (by decide +kernel), by decide⟩
theorem stX10_isLetter : Cond.static yX10_isLetter ∈ gw := tm3 112 (by decide +kernel) (by decide +kernel)
abbrev mX10_isDigit : MT := (RX10, cX10_isDigit, 1, (some .boolean), "isDigit", [])
theorem cwX10_isDigit {M : MT} {i : Nat} : callW M i yX10_isDigit mX10_isDigit 1 := ⟨tm3 116 (by decide +kernel) (by decide +kernel), tm1 3 (by decide +kernel) (by decide +kernel), ⟨(by decide +kernel), (by decide +kernel)⟩, (by decide +kernel), by decide⟩
theorem stX10_isDigit : Cond.static yX10_isDigit ∈ gw := tm3 115 (by decide +kernel) (by decide +kernel)
abbrev mX10_goOn : MT := (RX10, cX10_goOn, 2, (some .boolean), "goOn", [])
theorem cwX10_goOn {M : MT} {i : Nat} : callW M i yX10_goOn mX10_goOn 2 := ⟨tm3 110 (by decide +kernel) (by decide +kernel), tm1 3 (by decide +kernel) (by decide +kernel), ⟨(by decide +kernel), (by decide +kernel)⟩, (by decide +kernel), by decide⟩
theorem stX10_goOn : Cond.static yX10_goOn ∈ gw := tm3 109 (by decide +kernel) (by decide +kernel)
abbrev mX10_beginsSign : MT := (RX10, cX10_beginsSign, 3, (some .boolean), "beginsSign", [])
theorem cwX10_beginsSign {M : MT} {i : Nat} : callW M i yX10_beginsSign mX10_beginsSign 2 := ⟨tm3 106 (by decide +kernel) (by decide +kernel), tm1 3 (by decide +kernel) (by decide +kernel), ⟨(by decide +kernel), (by decide +kernel)⟩, (by decide +kernel), by decide⟩
theorem stX10_beginsSign : Cond.static yX10_beginsSign ∈ gw := tm3 105 (by decide +kernel) (by decide +kernel)
abbrev mX10_endOf : MT := (RX10, cX10_endOf, 4, (some .int), "endOf", [])
theorem cwX10_endOf {M : MT} {i : Nat} : callW M i yX10_endOf mX10_endOf 3 := ⟨tm3 119 (by decide +kernel) (by decide +kernel), tm1 3 (by decide +kernel) (by decide +kernel), ⟨(by decide +kernel), (by decide +kernel)⟩, (by decide +kernel), by decide⟩
theorem stX10_endOf : Cond.static yX10_endOf ∈ gw := tm3 118 (by decide +kernel) (by decide +kernel)
abbrev mX10_numberOf : MT := (RX10, cX10_numberOf, 5, (some .int), "numberOf", [])
theorem cwX10_numberOf {M : MT} {i : Nat} : callW M i yX10_numberOf mX10_numberOf 3 := ⟨tm3 187 (by decide +kernel) (by decide +kernel), tm1 3 (by decide +kernel) (by decide +kernel), ⟨(by decide +kernel), (by decide +kernel)⟩, (by decide +kernel), by decide⟩
theorem stX10_numberOf : Cond.static yX10_numberOf ∈ gw := tm3 186 (by decide +kernel) (by decide +kernel)
abbrev mX10_signOf : MT := (RX10, cX10_signOf, 7, (some (.object "HalfOaths$Sign")), "signOf", [])
theorem cwX10_signOf {M : MT} {i : Nat} : callW M i yX10_signOf mX10_signOf 3 := ⟨tm3 122 (by decide +kernel) (by decide +kernel), tm1 3 (by decide +kernel) (by decide +kernel), ⟨(by decide +kernel), (by decide +kernel)⟩, (by decide +kernel), by decide⟩
theorem stX10_signOf : Cond.static yX10_signOf ∈ gw := tm3 121 (by decide +kernel) (by decide +kernel)
abbrev mX10_spells : MT := (RX10, cX10_spells, 5, (some .boolean), "spells", [])
theorem cwX10_spells {M : MT} {i : Nat} : callW M i yX10_spells mX10_spells 4 := ⟨tm3 131 (by decide +kernel) (by decide +kernel), tm1 3 (by decide +kernel) (by decide +kernel), ⟨(by decide +kernel), (by decide +kernel)⟩, (by decide +kernel), by decide⟩
theorem stX10_spells : Cond.static yX10_spells ∈ gw := tm3 130 (by decide +kernel) (by decide +kernel)
abbrev mX11_init : MT := (RX11, cX11_init, 2, none, "<init>", [])
theorem cwX11_init {M : MT} {i : Nat} : callW M i yX11_init mX11_init 0 := ⟨tm1 34 (by decide +kernel) (by decide +kernel), tm1 1 (by decide +kernel) (by decide +kernel), ⟨(by decide +kernel), (by decide +kernel)⟩, (by decide +kernel), by decide⟩
theorem imX11_init : Cond.instanceMethod yX11_init ∈ gw := tm1 33 (by decide +kernel) (by decide +kernel)
abbrev mX11_feed : MT := (RX11, cX11_feed, 6, (some .int), "feed", [])
theorem cwX11_feed {M : MT} {i : Nat} : callW M i yX11_feed mX11_feed 5 := ⟨tm2 159 (by decide +kernel) (by decide +kernel), tm1 1 (by decide +kernel) (by decide +kernel), ⟨(by decide +kernel), (by decide +kernel)⟩, (by decide +kernel), by decide⟩
theorem imX11_feed : Cond.instanceMethod yX11_feed ∈ gw := tm2 157 (by decide +kernel) (by decide +kernel)
theorem seX11_feed : Cond.selects RX11 yX11_feed yX11_feed ∈ gw := tm2 158 (by decide +kernel) (by decide +kernel)
abbrev mX11_end : MT := (RX11, cX11_end, 2, (some .boolean), "end", [])
theorem cwX11_end {M : MT} {i : Nat} : callW M i yX11_end mX11_end 1 := ⟨tm2 170 (by decide +kernel) (by decide +kernel), tm1 1 (by decide +kernel) (by decide +kernel), ⟨(by decide +kernel), (by decide +kernel)⟩, (by decide +kernel), by decide⟩
theorem imX11_end : Cond.instanceMethod yX11_end ∈ gw := tm2 168 (by decide +kernel) (by decide +kernel)
theorem seX11_end : Cond.selects RX11 yX11_end yX11_end ∈ gw := tm2 169 (by decide +kernel) (by decide +kernel)
abbrev mX11_hills : MT := (RX11, cX11_hills, 1, (some .int), "hills", [])
theorem cwX11_hills {M : MT} {i : Nat} : callW M i yX11_hills mX11_hills 0 := ⟨tm3 91 (by decide +kernel) (by decide +kernel), tm1 1 (by decide +kernel) (by decide +kernel), ⟨(by decide +kernel), (by decide +kernel)⟩, (by decide +kernel), by decide⟩
theorem imX11_hills : Cond.instanceMethod yX11_hills ∈ gw := tm3 89 (by decide +kernel) (by decide +kernel)
theorem seX11_hills : Cond.selects RX11 yX11_hills yX11_hills ∈ gw := tm3 90 (by decide +kernel) (by decide +kernel)
abbrev mX11_law : MT := (RX11, cX11_law, 1, (some .int), "law", [])
theorem cwX11_law {M : MT} {i : Nat} : callW M i yX11_law mX11_law 0 := ⟨tm4 90 (by decide +kernel) (by decide +kernel), tm1 1 (by decide +kernel) (by decide +kernel), ⟨(by decide +kernel), (by decide +kernel)⟩, (by decide +kernel), by decide⟩
theorem imX11_law : Cond.instanceMethod yX11_law ∈ gw := tm4 88 (by decide +kernel) (by decide +kernel)
theorem seX11_law : Cond.selects RX11 yX11_law yX11_law ∈ gw := tm4 89 (by decide +kernel) (by decide +kernel)
abbrev mX11_fault : MT := (RX11, cX11_fault, 1, (some .int), "fault", [])
theorem cwX11_fault {M : MT} {i : Nat} : callW M i yX11_fault mX11_fault 0 := ⟨tm2 174 (by decide +kernel) (by decide +kernel), tm1 1 (by decide +kernel) (by decide +kernel), ⟨(by decide +kernel), (by decide +kernel)⟩, (by decide +kernel), by decide⟩
theorem imX11_fault : Cond.instanceMethod yX11_fault ∈ gw := tm2 172 (by decide +kernel) (by decide +kernel)
theorem seX11_fault : Cond.selects RX11 yX11_fault yX11_fault ∈ gw := tm2 173 (by decide +kernel) (by decide +kernel)
abbrev mX11_scanTape : MT := (RX11, cX11_scanTape, 1, none, "scanTape", [])
theorem cwX11_scanTape {M : MT} {i : Nat} : callW M i yX11_scanTape mX11_scanTape 0 := ⟨tm3 95 (by decide +kernel) (by decide +kernel), tm1 1 (by decide +kernel) (by decide +kernel), ⟨(by decide +kernel), (by decide +kernel)⟩, (by decide +kernel), by decide⟩
theorem imX11_scanTape : Cond.instanceMethod yX11_scanTape ∈ gw := tm3 94 (by decide +kernel) (by decide +kernel)
theorem seX11_scanTape : Cond.selects RX11 yX11_scanTape yX11_scanTape ∈ gw := pv_mem (y := yX11_scanTape) (n := 18) 7 (by decide +kernel) (by decide +kernel)
abbrev mX11_person : MT := (RX11, cX11_person, 3, (some .int), "person", [])
theorem cwX11_person {M : MT} {i : Nat} : callW M i yX11_person mX11_person 2 := ⟨tm4 160 (by decide +kernel) (by decide +kernel), tm1 1 (by decide +kernel) (by decide +kernel), ⟨(by decide +kernel), (by decide +kernel)⟩, (by decide +kernel), by decide⟩
theorem imX11_person : Cond.instanceMethod yX11_person ∈ gw := tm4 158 (by decide +kernel) (by decide +kernel)
theorem seX11_person : Cond.selects RX11 yX11_person yX11_person ∈ gw := tm4 159 (by decide +kernel) (by decide +kernel)
abbrev mX11_word : MT := (RX11, cX11_word, 5, (some .int), "word", [])
theorem cwX11_word {M : MT} {i : Nat} : callW M i yX11_word mX11_word 3 := ⟨tm4 228 (by decide +kernel) (by decide +kernel), tm1 1 (by decide +kernel) (by decide +kernel), ⟨(by decide +kernel), (by decide +kernel)⟩, (by decide +kernel), by decide⟩
theorem imX11_word : Cond.instanceMethod yX11_word ∈ gw := tm4 226 (by decide +kernel) (by decide +kernel)
theorem seX11_word : Cond.selects RX11 yX11_word yX11_word ∈ gw := tm4 227 (by decide +kernel) (by decide +kernel)
abbrev mX11_reading : MT := (RX11, cX11_reading, 4, (some .int), "reading", [])
theorem cwX11_reading {M : MT} {i : Nat} : callW M i yX11_reading mX11_reading 3 := ⟨tm4 236 (by decide +kernel) (by decide +kernel), tm1 1 (by decide +kernel) (by decide +kernel), ⟨(by decide +kernel), (by decide +kernel)⟩, (by decide +kernel), by decide⟩
theorem imX11_reading : Cond.instanceMethod yX11_reading ∈ gw := tm4 234 (by decide +kernel) (by decide +kernel)
theorem seX11_reading : Cond.selects RX11 yX11_reading yX11_reading ∈ gw := tm4 235 (by decide +kernel) (by decide +kernel)
abbrev mX11_hold : MT := (RX11, cX11_hold, 3, (some .int), "hold", [])
theorem cwX11_hold {M : MT} {i : Nat} : callW M i yX11_hold mX11_hold 2 := ⟨tm5 9 (by decide +kernel) (by decide +kernel), tm1 1 (by decide +kernel) (by decide +kernel), ⟨(by decide +kernel), (by decide +kernel)⟩, (by decide +kernel), by decide⟩
theorem imX11_hold : Cond.instanceMethod yX11_hold ∈ gw := tm5 7 (by decide +kernel) (by decide +kernel)
theorem seX11_hold : Cond.selects RX11 yX11_hold yX11_hold ∈ gw := tm5 8 (by decide +kernel) (by decide +kernel)
abbrev mX11_mode : MT := (RX11, cX11_mode, 2, (some .int), "mode", [])
theorem cwX11_mode {M : MT} {i : Nat} : callW M i yX11_mode mX11_mode 1 := ⟨tm5 16 (by decide +kernel) (by decide +kernel), tm1 1 (by decide +kernel) (by decide +kernel), ⟨(by decide +kernel), (by decide +kernel)⟩, (by decide +kernel), by decide⟩
theorem imX11_mode : Cond.instanceMethod yX11_mode ∈ gw := tm5 14 (by decide +kernel) (by decide +kernel)
theorem seX11_mode : Cond.selects RX11 yX11_mode yX11_mode ∈ gw := tm5 15 (by decide +kernel) (by decide +kernel)
abbrev mX11_needPerson : MT := (RX11, cX11_needPerson, 2, none, "needPerson", [])
theorem cwX11_needPerson {M : MT} {i : Nat} : callW M i yX11_needPerson mX11_needPerson 1 := ⟨tm4 164 (by decide +kernel) (by decide +kernel), tm1 1 (by decide +kernel) (by decide +kernel), ⟨(by decide +kernel), (by decide +kernel)⟩, (by decide +kernel), by decide⟩
theorem imX11_needPerson : Cond.instanceMethod yX11_needPerson ∈ gw := tm4 163 (by decide +kernel) (by decide +kernel)
theorem seX11_needPerson : Cond.selects RX11 yX11_needPerson yX11_needPerson ∈ gw := pv_mem (y := yX11_needPerson) (n := 18) 12 (by decide +kernel) (by decide +kernel)
abbrev mX11_needDistance : MT := (RX11, cX11_needDistance, 1, none, "needDistance", [])
theorem cwX11_needDistance {M : MT} {i : Nat} : callW M i yX11_needDistance mX11_needDistance 1 := ⟨tm5 19 (by decide +kernel) (by decide +kernel), tm1 1 (by decide +kernel) (by decide +kernel), ⟨(by decide +kernel), (by decide +kernel)⟩, (by decide +kernel), by decide⟩
theorem stX11_needDistance : Cond.static yX11_needDistance ∈ gw := tm5 18 (by decide +kernel) (by decide +kernel)
abbrev mX11_needNumber : MT := (RX11, cX11_needNumber, 3, none, "needNumber", [])
theorem cwX11_needNumber {M : MT} {i : Nat} : callW M i yX11_needNumber mX11_needNumber 3 := ⟨tm5 30 (by decide +kernel) (by decide +kernel), tm1 1 (by decide +kernel) (by decide +kernel), ⟨(by decide +kernel), (by decide +kernel)⟩, (by decide +kernel), by decide⟩
theorem stX11_needNumber : Cond.static yX11_needNumber ∈ gw := tm5 29 (by decide +kernel) (by decide +kernel)
abbrev mX11_needState : MT := (RX11, cX11_needState, 3, none, "needState", [])
theorem cwX11_needState {M : MT} {i : Nat} : callW M i yX11_needState mX11_needState 2 := ⟨tm5 82 (by decide +kernel) (by decide +kernel), tm1 1 (by decide +kernel) (by decide +kernel), ⟨(by decide +kernel), (by decide +kernel)⟩, (by decide +kernel), by decide⟩
theorem imX11_needState : Cond.instanceMethod yX11_needState ∈ gw := tm5 81 (by decide +kernel) (by decide +kernel)
theorem seX11_needState : Cond.selects RX11 yX11_needState yX11_needState ∈ gw := pv_mem (y := yX11_needState) (n := 18) 20 (by decide +kernel) (by decide +kernel)
abbrev mX11_needTwo : MT := (RX11, cX11_needTwo, 2, none, "needTwo", [])
theorem cwX11_needTwo {M : MT} {i : Nat} : callW M i yX11_needTwo mX11_needTwo 2 := ⟨tm5 154 (by decide +kernel) (by decide +kernel), tm1 1 (by decide +kernel) (by decide +kernel), ⟨(by decide +kernel), (by decide +kernel)⟩, (by decide +kernel), by decide⟩
theorem stX11_needTwo : Cond.static yX11_needTwo ∈ gw := tm5 153 (by decide +kernel) (by decide +kernel)
abbrev mX11_toldOf : MT := (RX11, cX11_toldOf, 4, (some .int), "toldOf", [])
theorem cwX11_toldOf {M : MT} {i : Nat} : callW M i yX11_toldOf mX11_toldOf 3 := ⟨tm5 1 (by decide +kernel) (by decide +kernel), tm1 1 (by decide +kernel) (by decide +kernel), ⟨(by decide +kernel), (by decide +kernel)⟩, (by decide +kernel), by decide⟩
theorem imX11_toldOf : Cond.instanceMethod yX11_toldOf ∈ gw := tm5 0 (by decide +kernel) (by decide +kernel)
theorem seX11_toldOf : Cond.selects RX11 yX11_toldOf yX11_toldOf ∈ gw := pv_mem (y := yX11_toldOf) (n := 18) 17 (by decide +kernel) (by decide +kernel)
abbrev mX11_worstPlace : MT := (RX11, cX11_worstPlace, 6, (some .int), "worstPlace", [])
theorem cwX11_worstPlace {M : MT} {i : Nat} : callW M i yX11_worstPlace mX11_worstPlace 1 := ⟨tm4 188 (by decide +kernel) (by decide +kernel), tm1 1 (by decide +kernel) (by decide +kernel), ⟨(by decide +kernel), (by decide +kernel)⟩, (by decide +kernel), by decide⟩
theorem imX11_worstPlace : Cond.instanceMethod yX11_worstPlace ∈ gw := tm4 187 (by decide +kernel) (by decide +kernel)
theorem seX11_worstPlace : Cond.selects RX11 yX11_worstPlace yX11_worstPlace ∈ gw := pv_mem (y := yX11_worstPlace) (n := 18) 13 (by decide +kernel) (by decide +kernel)
abbrev mX11_bestPlace : MT := (RX11, cX11_bestPlace, 6, (some .int), "bestPlace", [])
theorem cwX11_bestPlace {M : MT} {i : Nat} : callW M i yX11_bestPlace mX11_bestPlace 1 := ⟨tm4 192 (by decide +kernel) (by decide +kernel), tm1 1 (by decide +kernel) (by decide +kernel), ⟨(by decide +kernel), (by decide +kernel)⟩, (by decide +kernel), by decide⟩
theorem imX11_bestPlace : Cond.instanceMethod yX11_bestPlace ∈ gw := tm4 191 (by decide +kernel) (by decide +kernel)
theorem seX11_bestPlace : Cond.selects RX11 yX11_bestPlace yX11_bestPlace ∈ gw := pv_mem (y := yX11_bestPlace) (n := 18) 14 (by decide +kernel) (by decide +kernel)
abbrev mX11_goingOf : MT := (RX11, cX11_goingOf, 5, (some .int), "goingOf", [])
theorem cwX11_goingOf {M : MT} {i : Nat} : callW M i yX11_goingOf mX11_goingOf 1 := ⟨tm4 201 (by decide +kernel) (by decide +kernel), tm1 1 (by decide +kernel) (by decide +kernel), ⟨(by decide +kernel), (by decide +kernel)⟩, (by decide +kernel), by decide⟩
theorem imX11_goingOf : Cond.instanceMethod yX11_goingOf ∈ gw := tm4 200 (by decide +kernel) (by decide +kernel)
theorem seX11_goingOf : Cond.selects RX11 yX11_goingOf yX11_goingOf ∈ gw := pv_mem (y := yX11_goingOf) (n := 18) 15 (by decide +kernel) (by decide +kernel)
abbrev mX11_shareOf : MT := (RX11, cX11_shareOf, 4, (some .int), "shareOf", [])
theorem cwX11_shareOf {M : MT} {i : Nat} : callW M i yX11_shareOf mX11_shareOf 1 := ⟨tm4 205 (by decide +kernel) (by decide +kernel), tm1 1 (by decide +kernel) (by decide +kernel), ⟨(by decide +kernel), (by decide +kernel)⟩, (by decide +kernel), by decide⟩
theorem imX11_shareOf : Cond.instanceMethod yX11_shareOf ∈ gw := tm4 204 (by decide +kernel) (by decide +kernel)
theorem seX11_shareOf : Cond.selects RX11 yX11_shareOf yX11_shareOf ∈ gw := pv_mem (y := yX11_shareOf) (n := 18) 16 (by decide +kernel) (by decide +kernel)
abbrev mX11_heldWeight : MT := (RX11, cX11_heldWeight, 2, (some .int), "heldWeight", [])
theorem cwX11_heldWeight {M : MT} {i : Nat} : callW M i yX11_heldWeight mX11_heldWeight 1 := ⟨tm2 198 (by decide +kernel) (by decide +kernel), tm1 1 (by decide +kernel) (by decide +kernel), ⟨(by decide +kernel), (by decide +kernel)⟩, (by decide +kernel), by decide⟩
theorem imX11_heldWeight : Cond.instanceMethod yX11_heldWeight ∈ gw := tm2 197 (by decide +kernel) (by decide +kernel)
theorem seX11_heldWeight : Cond.selects RX11 yX11_heldWeight yX11_heldWeight ∈ gw := pv_mem (y := yX11_heldWeight) (n := 18) 2 (by decide +kernel) (by decide +kernel)
abbrev mX11_hours : MT := (RX11, cX11_hours, 2, (some .int), "hours", [])
theorem cwX11_hours {M : MT} {i : Nat} : callW M i yX11_hours mX11_hours 1 := ⟨tm5 27 (by decide +kernel) (by decide +kernel), tm1 1 (by decide +kernel) (by decide +kernel), ⟨(by decide +kernel), (by decide +kernel)⟩, (by decide +kernel), by decide⟩
theorem imX11_hours : Cond.instanceMethod yX11_hours ∈ gw := tm5 25 (by decide +kernel) (by decide +kernel)
theorem seX11_hours : Cond.selects RX11 yX11_hours yX11_hours ∈ gw := tm5 26 (by decide +kernel) (by decide +kernel)
abbrev mX11_begin : MT := (RX11, cX11_begin, 2, (some .int), "begin", [])
theorem cwX11_begin {M : MT} {i : Nat} : callW M i yX11_begin mX11_begin 1 := ⟨tm5 78 (by decide +kernel) (by decide +kernel), tm1 1 (by decide +kernel) (by decide +kernel), ⟨(by decide +kernel), (by decide +kernel)⟩, (by decide +kernel), by decide⟩
theorem imX11_begin : Cond.instanceMethod yX11_begin ∈ gw := tm5 76 (by decide +kernel) (by decide +kernel)
theorem seX11_begin : Cond.selects RX11 yX11_begin yX11_begin ∈ gw := tm5 77 (by decide +kernel) (by decide +kernel)
abbrev mX11_stop : MT := (RX11, cX11_stop, 3, (some .int), "stop", [])
theorem cwX11_stop {M : MT} {i : Nat} : callW M i yX11_stop mX11_stop 2 := ⟨tm5 106 (by decide +kernel) (by decide +kernel), tm1 1 (by decide +kernel) (by decide +kernel), ⟨(by decide +kernel), (by decide +kernel)⟩, (by decide +kernel), by decide⟩
theorem imX11_stop : Cond.instanceMethod yX11_stop ∈ gw := tm5 104 (by decide +kernel) (by decide +kernel)
theorem seX11_stop : Cond.selects RX11 yX11_stop yX11_stop ∈ gw := tm5 105 (by decide +kernel) (by decide +kernel)
abbrev mX11_finish : MT := (RX11, cX11_finish, 2, (some .int), "finish", [])
theorem cwX11_finish {M : MT} {i : Nat} : callW M i yX11_finish mX11_finish 1 := ⟨tm5 114 (by decide +kernel) (by decide +kernel), tm1 1 (by decide +kernel) (by decide +kernel), ⟨(by decide +kernel), (by decide +kernel)⟩, (by decide +kernel), by decide⟩
theorem imX11_finish : Cond.instanceMethod yX11_finish ∈ gw := tm5 112 (by decide +kernel) (by decide +kernel)
theorem seX11_finish : Cond.selects RX11 yX11_finish yX11_finish ∈ gw := tm5 113 (by decide +kernel) (by decide +kernel)
abbrev mX11_retract : MT := (RX11, cX11_retract, 3, (some .int), "retract", [])
theorem cwX11_retract {M : MT} {i : Nat} : callW M i yX11_retract mX11_retract 1 := ⟨tm5 122 (by decide +kernel) (by decide +kernel), tm1 1 (by decide +kernel) (by decide +kernel), ⟨(by decide +kernel), (by decide +kernel)⟩, (by decide +kernel), by decide⟩
theorem imX11_retract : Cond.instanceMethod yX11_retract ∈ gw := tm5 120 (by decide +kernel) (by decide +kernel)
theorem seX11_retract : Cond.selects RX11 yX11_retract yX11_retract ∈ gw := tm5 121 (by decide +kernel) (by decide +kernel)
abbrev mX11_guard : MT := (RX11, cX11_guard, 4, (some .int), "guard", [])
theorem cwX11_guard {M : MT} {i : Nat} : callW M i yX11_guard mX11_guard 2 := ⟨tm5 130 (by decide +kernel) (by decide +kernel), tm1 1 (by decide +kernel) (by decide +kernel), ⟨(by decide +kernel), (by decide +kernel)⟩, (by decide +kernel), by decide⟩
theorem imX11_guard : Cond.instanceMethod yX11_guard ∈ gw := tm5 128 (by decide +kernel) (by decide +kernel)
theorem seX11_guard : Cond.selects RX11 yX11_guard yX11_guard ∈ gw := tm5 129 (by decide +kernel) (by decide +kernel)
abbrev mX11_noise : MT := (RX11, cX11_noise, 3, (some .int), "noise", [])
theorem cwX11_noise {M : MT} {i : Nat} : callW M i yX11_noise mX11_noise 1 := ⟨tm5 137 (by decide +kernel) (by decide +kernel), tm1 1 (by decide +kernel) (by decide +kernel), ⟨(by decide +kernel), (by decide +kernel)⟩, (by decide +kernel), by decide⟩
theorem imX11_noise : Cond.instanceMethod yX11_noise ∈ gw := tm5 135 (by decide +kernel) (by decide +kernel)
theorem seX11_noise : Cond.selects RX11 yX11_noise yX11_noise ∈ gw := tm5 136 (by decide +kernel) (by decide +kernel)
abbrev mX11_turn : MT := (RX11, cX11_turn, 4, (some .int), "turn", [])
theorem cwX11_turn {M : MT} {i : Nat} : callW M i yX11_turn mX11_turn 2 := ⟨tm5 144 (by decide +kernel) (by decide +kernel), tm1 1 (by decide +kernel) (by decide +kernel), ⟨(by decide +kernel), (by decide +kernel)⟩, (by decide +kernel), by decide⟩
theorem imX11_turn : Cond.instanceMethod yX11_turn ∈ gw := tm5 142 (by decide +kernel) (by decide +kernel)
theorem seX11_turn : Cond.selects RX11 yX11_turn yX11_turn ∈ gw := tm5 143 (by decide +kernel) (by decide +kernel)
abbrev mX11_repeat : MT := (RX11, cX11_repeat, 3, (some .int), "repeat", [])
theorem cwX11_repeat {M : MT} {i : Nat} : callW M i yX11_repeat mX11_repeat 2 := ⟨tm5 151 (by decide +kernel) (by decide +kernel), tm1 1 (by decide +kernel) (by decide +kernel), ⟨(by decide +kernel), (by decide +kernel)⟩, (by decide +kernel), by decide⟩
theorem imX11_repeat : Cond.instanceMethod yX11_repeat ∈ gw := tm5 149 (by decide +kernel) (by decide +kernel)
theorem seX11_repeat : Cond.selects RX11 yX11_repeat yX11_repeat ∈ gw := tm5 150 (by decide +kernel) (by decide +kernel)
abbrev mX11_actAt : MT := (RX11, cX11_actAt, 3, (some (.object "HalfOaths$Hills")), "actAt", [])
theorem cwX11_actAt {M : MT} {i : Nat} : callW M i yX11_actAt mX11_actAt 1 := ⟨tm3 54 (by decide +kernel) (by decide +kernel), tm1 1 (by decide +kernel) (by decide +kernel), ⟨(by decide +kernel), (by decide +kernel)⟩, (by decide +kernel), by decide⟩
theorem imX11_actAt : Cond.instanceMethod yX11_actAt ∈ gw := tm3 53 (by decide +kernel) (by decide +kernel)
theorem seX11_actAt : Cond.selects RX11 yX11_actAt yX11_actAt ∈ gw := pv_mem (y := yX11_actAt) (n := 18) 5 (by decide +kernel) (by decide +kernel)
abbrev mX11_rememberAct : MT := (RX11, cX11_rememberAct, 2, none, "rememberAct", [])
theorem cwX11_rememberAct {M : MT} {i : Nat} : callW M i yX11_rememberAct mX11_rememberAct 0 := ⟨tm5 35 (by decide +kernel) (by decide +kernel), tm1 1 (by decide +kernel) (by decide +kernel), ⟨(by decide +kernel), (by decide +kernel)⟩, (by decide +kernel), by decide⟩
theorem imX11_rememberAct : Cond.instanceMethod yX11_rememberAct ∈ gw := tm5 34 (by decide +kernel) (by decide +kernel)
theorem seX11_rememberAct : Cond.selects RX11 yX11_rememberAct yX11_rememberAct ∈ gw := pv_mem (y := yX11_rememberAct) (n := 18) 18 (by decide +kernel) (by decide +kernel)
abbrev mX11_order : MT := (RX11, cX11_order, 3, (some .int), "order", [])
theorem cwX11_order {M : MT} {i : Nat} : callW M i yX11_order mX11_order 2 := ⟨tm5 166 (by decide +kernel) (by decide +kernel), tm1 1 (by decide +kernel) (by decide +kernel), ⟨(by decide +kernel), (by decide +kernel)⟩, (by decide +kernel), by decide⟩
theorem imX11_order : Cond.instanceMethod yX11_order ∈ gw := tm5 164 (by decide +kernel) (by decide +kernel)
theorem seX11_order : Cond.selects RX11 yX11_order yX11_order ∈ gw := tm5 165 (by decide +kernel) (by decide +kernel)
abbrev mX11_fence : MT := (RX11, cX11_fence, 7, (some .int), "fence", [])
theorem cwX11_fence {M : MT} {i : Nat} : callW M i yX11_fence mX11_fence 2 := ⟨tm5 199 (by decide +kernel) (by decide +kernel), tm1 1 (by decide +kernel) (by decide +kernel), ⟨(by decide +kernel), (by decide +kernel)⟩, (by decide +kernel), by decide⟩
theorem imX11_fence : Cond.instanceMethod yX11_fence ∈ gw := tm5 197 (by decide +kernel) (by decide +kernel)
theorem seX11_fence : Cond.selects RX11 yX11_fence yX11_fence ∈ gw := tm5 198 (by decide +kernel) (by decide +kernel)
abbrev mX11_gainsay : MT := (RX11, cX11_gainsay, 3, (some .boolean), "gainsay", [])
theorem cwX11_gainsay {M : MT} {i : Nat} : callW M i yX11_gainsay mX11_gainsay 2 := ⟨tm5 210 (by decide +kernel) (by decide +kernel), tm1 1 (by decide +kernel) (by decide +kernel), ⟨(by decide +kernel), (by decide +kernel)⟩, (by decide +kernel), by decide⟩
theorem imX11_gainsay : Cond.instanceMethod yX11_gainsay ∈ gw := tm5 208 (by decide +kernel) (by decide +kernel)
theorem seX11_gainsay : Cond.selects RX11 yX11_gainsay yX11_gainsay ∈ gw := tm5 209 (by decide +kernel) (by decide +kernel)
abbrev mX11_peace : MT := (RX11, cX11_peace, 5, (some .int), "peace", [])
theorem cwX11_peace {M : MT} {i : Nat} : callW M i yX11_peace mX11_peace 0 := ⟨tm2 178 (by decide +kernel) (by decide +kernel), tm1 1 (by decide +kernel) (by decide +kernel), ⟨(by decide +kernel), (by decide +kernel)⟩, (by decide +kernel), by decide⟩
theorem imX11_peace : Cond.instanceMethod yX11_peace ∈ gw := tm2 176 (by decide +kernel) (by decide +kernel)
theorem seX11_peace : Cond.selects RX11 yX11_peace yX11_peace ∈ gw := tm2 177 (by decide +kernel) (by decide +kernel)
abbrev mX11_quiet : MT := (RX11, cX11_quiet, 5, (some .int), "quiet", [])
theorem cwX11_quiet {M : MT} {i : Nat} : callW M i yX11_quiet mX11_quiet 0 := ⟨tm3 29 (by decide +kernel) (by decide +kernel), tm1 1 (by decide +kernel) (by decide +kernel), ⟨(by decide +kernel), (by decide +kernel)⟩, (by decide +kernel), by decide⟩
theorem imX11_quiet : Cond.instanceMethod yX11_quiet ∈ gw := tm3 27 (by decide +kernel) (by decide +kernel)
theorem seX11_quiet : Cond.selects RX11 yX11_quiet yX11_quiet ∈ gw := tm3 28 (by decide +kernel) (by decide +kernel)
abbrev mX11_areAtOdds : MT := (RX11, cX11_areAtOdds, 6, (some .boolean), "areAtOdds", [])
theorem cwX11_areAtOdds {M : MT} {i : Nat} : callW M i yX11_areAtOdds mX11_areAtOdds 2 := ⟨tm2 193 (by decide +kernel) (by decide +kernel), tm1 1 (by decide +kernel) (by decide +kernel), ⟨(by decide +kernel), (by decide +kernel)⟩, (by decide +kernel), by decide⟩
theorem imX11_areAtOdds : Cond.instanceMethod yX11_areAtOdds ∈ gw := tm2 192 (by decide +kernel) (by decide +kernel)
theorem seX11_areAtOdds : Cond.selects RX11 yX11_areAtOdds yX11_areAtOdds ∈ gw := pv_mem (y := yX11_areAtOdds) (n := 18) 1 (by decide +kernel) (by decide +kernel)
abbrev mX11_fillAgainst : MT := (RX11, cX11_fillAgainst, 4, none, "fillAgainst", [])
theorem cwX11_fillAgainst {M : MT} {i : Nat} : callW M i yX11_fillAgainst mX11_fillAgainst 0 := ⟨tm2 189 (by decide +kernel) (by decide +kernel), tm1 1 (by decide +kernel) (by decide +kernel), ⟨(by decide +kernel), (by decide +kernel)⟩, (by decide +kernel), by decide⟩
theorem imX11_fillAgainst : Cond.instanceMethod yX11_fillAgainst ∈ gw := tm2 188 (by decide +kernel) (by decide +kernel)
theorem seX11_fillAgainst : Cond.selects RX11 yX11_fillAgainst yX11_fillAgainst ∈ gw := pv_mem (y := yX11_fillAgainst) (n := 18) 0 (by decide +kernel) (by decide +kernel)
abbrev mX11_isPeaceful : MT := (RX11, cX11_isPeaceful, 3, (some .boolean), "isPeaceful", [])
theorem cwX11_isPeaceful {M : MT} {i : Nat} : callW M i yX11_isPeaceful mX11_isPeaceful 1 := ⟨tm3 25 (by decide +kernel) (by decide +kernel), tm1 1 (by decide +kernel) (by decide +kernel), ⟨(by decide +kernel), (by decide +kernel)⟩, (by decide +kernel), by decide⟩
theorem imX11_isPeaceful : Cond.instanceMethod yX11_isPeaceful ∈ gw := tm3 24 (by decide +kernel) (by decide +kernel)
theorem seX11_isPeaceful : Cond.selects RX11 yX11_isPeaceful yX11_isPeaceful ∈ gw := pv_mem (y := yX11_isPeaceful) (n := 18) 4 (by decide +kernel) (by decide +kernel)
abbrev mX11_whose : MT := (RX11, cX11_whose, 1, (some .int), "whose", [])
theorem cwX11_whose {M : MT} {i : Nat} : callW M i yX11_whose mX11_whose 0 := ⟨tm5 217 (by decide +kernel) (by decide +kernel), tm1 1 (by decide +kernel) (by decide +kernel), ⟨(by decide +kernel), (by decide +kernel)⟩, (by decide +kernel), by decide⟩
theorem imX11_whose : Cond.instanceMethod yX11_whose ∈ gw := tm5 215 (by decide +kernel) (by decide +kernel)
theorem seX11_whose : Cond.selects RX11 yX11_whose yX11_whose ∈ gw := tm5 216 (by decide +kernel) (by decide +kernel)
abbrev mX11_likely : MT := (RX11, cX11_likely, 6, (some .int), "likely", [])
theorem cwX11_likely {M : MT} {i : Nat} : callW M i yX11_likely mX11_likely 0 := ⟨tm5 238 (by decide +kernel) (by decide +kernel), tm1 1 (by decide +kernel) (by decide +kernel), ⟨(by decide +kernel), (by decide +kernel)⟩, (by decide +kernel), by decide⟩
theorem imX11_likely : Cond.instanceMethod yX11_likely ∈ gw := tm5 236 (by decide +kernel) (by decide +kernel)
theorem seX11_likely : Cond.selects RX11 yX11_likely yX11_likely ∈ gw := tm5 237 (by decide +kernel) (by decide +kernel)
abbrev mX11_ask : MT := (RX11, cX11_ask, 6, (some .int), "ask", [])
theorem cwX11_ask {M : MT} {i : Nat} : callW M i yX11_ask mX11_ask 0 := ⟨tm6 5 (by decide +kernel) (by decide +kernel), tm1 1 (by decide +kernel) (by decide +kernel), ⟨(by decide +kernel), (by decide +kernel)⟩, (by decide +kernel), by decide⟩
theorem imX11_ask : Cond.instanceMethod yX11_ask ∈ gw := tm6 3 (by decide +kernel) (by decide +kernel)
theorem seX11_ask : Cond.selects RX11 yX11_ask yX11_ask ∈ gw := tm6 4 (by decide +kernel) (by decide +kernel)
abbrev mX11_coughs : MT := (RX11, cX11_coughs, 2, (some .boolean), "coughs", [])
theorem cwX11_coughs {M : MT} {i : Nat} : callW M i yX11_coughs mX11_coughs 1 := ⟨tm6 17 (by decide +kernel) (by decide +kernel), tm1 1 (by decide +kernel) (by decide +kernel), ⟨(by decide +kernel), (by decide +kernel)⟩, (by decide +kernel), by decide⟩
theorem imX11_coughs : Cond.instanceMethod yX11_coughs ∈ gw := tm6 15 (by decide +kernel) (by decide +kernel)
theorem seX11_coughs : Cond.selects RX11 yX11_coughs yX11_coughs ∈ gw := tm6 16 (by decide +kernel) (by decide +kernel)
abbrev mX11_first : MT := (RX11, cX11_first, 3, (some .int), "first", [])
theorem cwX11_first {M : MT} {i : Nat} : callW M i yX11_first mX11_first 1 := ⟨tm6 35 (by decide +kernel) (by decide +kernel), tm1 1 (by decide +kernel) (by decide +kernel), ⟨(by decide +kernel), (by decide +kernel)⟩, (by decide +kernel), by decide⟩
theorem imX11_first : Cond.instanceMethod yX11_first ∈ gw := tm6 33 (by decide +kernel) (by decide +kernel)
theorem seX11_first : Cond.selects RX11 yX11_first yX11_first ∈ gw := tm6 34 (by decide +kernel) (by decide +kernel)
abbrev mX11_takeHeardRows : MT := (RX11, cX11_takeHeardRows, 4, (some .int), "takeHeardRows", [])
theorem cwX11_takeHeardRows {M : MT} {i : Nat} : callW M i yX11_takeHeardRows mX11_takeHeardRows 0 := ⟨tm5 221 (by decide +kernel) (by decide +kernel), tm1 1 (by decide +kernel) (by decide +kernel), ⟨(by decide +kernel), (by decide +kernel)⟩, (by decide +kernel), by decide⟩
theorem imX11_takeHeardRows : Cond.instanceMethod yX11_takeHeardRows ∈ gw := tm5 220 (by decide +kernel) (by decide +kernel)
theorem seX11_takeHeardRows : Cond.selects RX11 yX11_takeHeardRows yX11_takeHeardRows ∈ gw := pv_mem (y := yX11_takeHeardRows) (n := 18) 23 (by decide +kernel) (by decide +kernel)
abbrev mX11_wrongRows : MT := (RX11, cX11_wrongRows, 5, (some .int), "wrongRows", [])
theorem cwX11_wrongRows {M : MT} {i : Nat} : callW M i yX11_wrongRows mX11_wrongRows 2 := ⟨tm5 230 (by decide +kernel) (by decide +kernel), tm1 1 (by decide +kernel) (by decide +kernel), ⟨(by decide +kernel), (by decide +kernel)⟩, (by decide +kernel), by decide⟩
theorem imX11_wrongRows : Cond.instanceMethod yX11_wrongRows ∈ gw := tm5 229 (by decide +kernel) (by decide +kernel)
theorem seX11_wrongRows : Cond.selects RX11 yX11_wrongRows yX11_wrongRows ∈ gw := pv_mem (y := yX11_wrongRows) (n := 18) 25 (by decide +kernel) (by decide +kernel)
abbrev mX11_fittingBits : MT := (RX11, cX11_fittingBits, 4, (some .int), "fittingBits", [])
theorem cwX11_fittingBits {M : MT} {i : Nat} : callW M i yX11_fittingBits mX11_fittingBits 1 := ⟨tm5 226 (by decide +kernel) (by decide +kernel), tm1 1 (by decide +kernel) (by decide +kernel), ⟨(by decide +kernel), (by decide +kernel)⟩, (by decide +kernel), by decide⟩
theorem imX11_fittingBits : Cond.instanceMethod yX11_fittingBits ∈ gw := tm5 225 (by decide +kernel) (by decide +kernel)
theorem seX11_fittingBits : Cond.selects RX11 yX11_fittingBits yX11_fittingBits ∈ gw := pv_mem (y := yX11_fittingBits) (n := 18) 24 (by decide +kernel) (by decide +kernel)
abbrev mX11_greatestPart : MT := (RX11, cX11_greatestPart, 7, (some .int), "greatestPart", [])
theorem cwX11_greatestPart {M : MT} {i : Nat} : callW M i yX11_greatestPart mX11_greatestPart 2 := ⟨tm6 9 (by decide +kernel) (by decide +kernel), tm1 1 (by decide +kernel) (by decide +kernel), ⟨(by decide +kernel), (by decide +kernel)⟩, (by decide +kernel), by decide⟩
theorem imX11_greatestPart : Cond.instanceMethod yX11_greatestPart ∈ gw := tm6 8 (by decide +kernel) (by decide +kernel)
theorem seX11_greatestPart : Cond.selects RX11 yX11_greatestPart yX11_greatestPart ∈ gw := pv_mem (y := yX11_greatestPart) (n := 18) 26 (by decide +kernel) (by decide +kernel)
abbrev mX11_takeCoughs : MT := (RX11, cX11_takeCoughs, 7, (some .int), "takeCoughs", [])
theorem cwX11_takeCoughs {M : MT} {i : Nat} : callW M i yX11_takeCoughs mX11_takeCoughs 1 := ⟨tm6 21 (by decide +kernel) (by decide +kernel), tm1 1 (by decide +kernel) (by decide +kernel), ⟨(by decide +kernel), (by decide +kernel)⟩, (by decide +kernel), by decide⟩
theorem imX11_takeCoughs : Cond.instanceMethod yX11_takeCoughs ∈ gw := tm6 20 (by decide +kernel) (by decide +kernel)
theorem seX11_takeCoughs : Cond.selects RX11 yX11_takeCoughs yX11_takeCoughs ∈ gw := pv_mem (y := yX11_takeCoughs) (n := 18) 27 (by decide +kernel) (by decide +kernel)
abbrev mX11_bestCough : MT := (RX11, cX11_bestCough, 7, (some .int), "bestCough", [])
theorem cwX11_bestCough {M : MT} {i : Nat} : callW M i yX11_bestCough mX11_bestCough 2 := ⟨tm6 25 (by decide +kernel) (by decide +kernel), tm1 1 (by decide +kernel) (by decide +kernel), ⟨(by decide +kernel), (by decide +kernel)⟩, (by decide +kernel), by decide⟩
theorem stX11_bestCough : Cond.static yX11_bestCough ∈ gw := tm6 24 (by decide +kernel) (by decide +kernel)
abbrev mX11_leastBit : MT := (RX11, cX11_leastBit, 2, (some .int), "leastBit", [])
theorem cwX11_leastBit {M : MT} {i : Nat} : callW M i yX11_leastBit mX11_leastBit 1 := ⟨tm6 28 (by decide +kernel) (by decide +kernel), tm1 1 (by decide +kernel) (by decide +kernel), ⟨(by decide +kernel), (by decide +kernel)⟩, (by decide +kernel), by decide⟩
theorem stX11_leastBit : Cond.static yX11_leastBit ∈ gw := tm6 27 (by decide +kernel) (by decide +kernel)
abbrev mX11_pairs : MT := (RX11, cX11_pairs, 2, (some .int), "pairs", [])
theorem cwX11_pairs {M : MT} {i : Nat} : callW M i yX11_pairs mX11_pairs 1 := ⟨tm6 42 (by decide +kernel) (by decide +kernel), tm1 1 (by decide +kernel) (by decide +kernel), ⟨(by decide +kernel), (by decide +kernel)⟩, (by decide +kernel), by decide⟩
theorem imX11_pairs : Cond.instanceMethod yX11_pairs ∈ gw := tm6 40 (by decide +kernel) (by decide +kernel)
theorem seX11_pairs : Cond.selects RX11 yX11_pairs yX11_pairs ∈ gw := tm6 41 (by decide +kernel) (by decide +kernel)
abbrev mX11_rests : MT := (RX11, cX11_rests, 9, (some .int), "rests", [])
theorem cwX11_rests {M : MT} {i : Nat} : callW M i yX11_rests mX11_rests 1 := ⟨tm6 66 (by decide +kernel) (by decide +kernel), tm1 1 (by decide +kernel) (by decide +kernel), ⟨(by decide +kernel), (by decide +kernel)⟩, (by decide +kernel), by decide⟩
theorem imX11_rests : Cond.instanceMethod yX11_rests ∈ gw := tm6 64 (by decide +kernel) (by decide +kernel)
theorem seX11_rests : Cond.selects RX11 yX11_rests yX11_rests ∈ gw := tm6 65 (by decide +kernel) (by decide +kernel)
abbrev mX11_oneOf : MT := (RX11, cX11_oneOf, 5, (some .int), "oneOf", [])
theorem cwX11_oneOf {M : MT} {i : Nat} : callW M i yX11_oneOf mX11_oneOf 5 := ⟨tm6 69 (by decide +kernel) (by decide +kernel), tm1 1 (by decide +kernel) (by decide +kernel), ⟨(by decide +kernel), (by decide +kernel)⟩, (by decide +kernel), by decide⟩
theorem stX11_oneOf : Cond.static yX11_oneOf ∈ gw := tm6 68 (by decide +kernel) (by decide +kernel)
abbrev mX11_odds : MT := (RX11, cX11_odds, 5, (some .int), "odds", [])
theorem cwX11_odds {M : MT} {i : Nat} : callW M i yX11_odds mX11_odds 1 := ⟨tm6 76 (by decide +kernel) (by decide +kernel), tm1 1 (by decide +kernel) (by decide +kernel), ⟨(by decide +kernel), (by decide +kernel)⟩, (by decide +kernel), by decide⟩
theorem imX11_odds : Cond.instanceMethod yX11_odds ∈ gw := tm6 74 (by decide +kernel) (by decide +kernel)
theorem seX11_odds : Cond.selects RX11 yX11_odds yX11_odds ∈ gw := tm6 75 (by decide +kernel) (by decide +kernel)
abbrev mX11_most : MT := (RX11, cX11_most, 6, (some .int), "most", [])
theorem cwX11_most {M : MT} {i : Nat} : callW M i yX11_most mX11_most 1 := ⟨tm6 83 (by decide +kernel) (by decide +kernel), tm1 1 (by decide +kernel) (by decide +kernel), ⟨(by decide +kernel), (by decide +kernel)⟩, (by decide +kernel), by decide⟩
theorem imX11_most : Cond.instanceMethod yX11_most ∈ gw := tm6 81 (by decide +kernel) (by decide +kernel)
theorem seX11_most : Cond.selects RX11 yX11_most yX11_most ∈ gw := tm6 82 (by decide +kernel) (by decide +kernel)
abbrev mX11_which : MT := (RX11, cX11_which, 2, (some .int), "which", [])
theorem cwX11_which {M : MT} {i : Nat} : callW M i yX11_which mX11_which 1 := ⟨tm6 91 (by decide +kernel) (by decide +kernel), tm1 1 (by decide +kernel) (by decide +kernel), ⟨(by decide +kernel), (by decide +kernel)⟩, (by decide +kernel), by decide⟩
theorem imX11_which : Cond.instanceMethod yX11_which ∈ gw := tm6 89 (by decide +kernel) (by decide +kernel)
theorem seX11_which : Cond.selects RX11 yX11_which yX11_which ∈ gw := tm6 90 (by decide +kernel) (by decide +kernel)
abbrev mX11_twins : MT := (RX11, cX11_twins, 5, (some .int), "twins", [])
theorem cwX11_twins {M : MT} {i : Nat} : callW M i yX11_twins mX11_twins 0 := ⟨tm3 33 (by decide +kernel) (by decide +kernel), tm1 1 (by decide +kernel) (by decide +kernel), ⟨(by decide +kernel), (by decide +kernel)⟩, (by decide +kernel), by decide⟩
theorem imX11_twins : Cond.instanceMethod yX11_twins ∈ gw := tm3 31 (by decide +kernel) (by decide +kernel)
theorem seX11_twins : Cond.selects RX11 yX11_twins yX11_twins ∈ gw := tm3 32 (by decide +kernel) (by decide +kernel)
abbrev mX11_trial : MT := (RX11, cX11_trial, 3, (some .int), "trial", [])
theorem cwX11_trial {M : MT} {i : Nat} : callW M i yX11_trial mX11_trial 2 := ⟨tm6 99 (by decide +kernel) (by decide +kernel), tm1 1 (by decide +kernel) (by decide +kernel), ⟨(by decide +kernel), (by decide +kernel)⟩, (by decide +kernel), by decide⟩
theorem imX11_trial : Cond.instanceMethod yX11_trial ∈ gw := tm6 97 (by decide +kernel) (by decide +kernel)
theorem seX11_trial : Cond.selects RX11 yX11_trial yX11_trial ∈ gw := tm6 98 (by decide +kernel) (by decide +kernel)
abbrev mX11_span : MT := (RX11, cX11_span, 6, (some .int), "span", [])
theorem cwX11_span {M : MT} {i : Nat} : callW M i yX11_span mX11_span 2 := ⟨tm6 106 (by decide +kernel) (by decide +kernel), tm1 1 (by decide +kernel) (by decide +kernel), ⟨(by decide +kernel), (by decide +kernel)⟩, (by decide +kernel), by decide⟩
theorem imX11_span : Cond.instanceMethod yX11_span ∈ gw := tm6 104 (by decide +kernel) (by decide +kernel)
theorem seX11_span : Cond.selects RX11 yX11_span yX11_span ∈ gw := tm6 105 (by decide +kernel) (by decide +kernel)
abbrev mX11_led : MT := (RX11, cX11_led, 6, (some .int), "led", [])
theorem cwX11_led {M : MT} {i : Nat} : callW M i yX11_led mX11_led 2 := ⟨tm6 113 (by decide +kernel) (by decide +kernel), tm1 1 (by decide +kernel) (by decide +kernel), ⟨(by decide +kernel), (by decide +kernel)⟩, (by decide +kernel), by decide⟩
theorem imX11_led : Cond.instanceMethod yX11_led ∈ gw := tm6 111 (by decide +kernel) (by decide +kernel)
theorem seX11_led : Cond.selects RX11 yX11_led yX11_led ∈ gw := tm6 112 (by decide +kernel) (by decide +kernel)
abbrev mX11_log : MT := (RX11, cX11_log, 3, (some .int), "log", [])
theorem cwX11_log {M : MT} {i : Nat} : callW M i yX11_log mX11_log 2 := ⟨tm6 120 (by decide +kernel) (by decide +kernel), tm1 1 (by decide +kernel) (by decide +kernel), ⟨(by decide +kernel), (by decide +kernel)⟩, (by decide +kernel), by decide⟩
theorem imX11_log : Cond.instanceMethod yX11_log ∈ gw := tm6 118 (by decide +kernel) (by decide +kernel)
theorem seX11_log : Cond.selects RX11 yX11_log yX11_log ∈ gw := tm6 119 (by decide +kernel) (by decide +kernel)
abbrev mX11_seed : MT := (RX11, cX11_seed, 3, (some .int), "seed", [])
theorem cwX11_seed {M : MT} {i : Nat} : callW M i yX11_seed mX11_seed 1 := ⟨tm3 46 (by decide +kernel) (by decide +kernel), tm1 1 (by decide +kernel) (by decide +kernel), ⟨(by decide +kernel), (by decide +kernel)⟩, (by decide +kernel), by decide⟩
theorem imX11_seed : Cond.instanceMethod yX11_seed ∈ gw := tm3 44 (by decide +kernel) (by decide +kernel)
theorem seX11_seed : Cond.selects RX11 yX11_seed yX11_seed ∈ gw := tm3 45 (by decide +kernel) (by decide +kernel)
abbrev mX11_undo : MT := (RX11, cX11_undo, 2, (some .boolean), "undo", [])
theorem cwX11_undo {M : MT} {i : Nat} : callW M i yX11_undo mX11_undo 0 := ⟨tm3 50 (by decide +kernel) (by decide +kernel), tm1 1 (by decide +kernel) (by decide +kernel), ⟨(by decide +kernel), (by decide +kernel)⟩, (by decide +kernel), by decide⟩
theorem imX11_undo : Cond.instanceMethod yX11_undo ∈ gw := tm3 48 (by decide +kernel) (by decide +kernel)
theorem seX11_undo : Cond.selects RX11 yX11_undo yX11_undo ∈ gw := tm3 49 (by decide +kernel) (by decide +kernel)
abbrev mX11_image : MT := (RX11, cX11_image, 1, none, "image", [])
theorem cwX11_image {M : MT} {i : Nat} : callW M i yX11_image mX11_image 0 := ⟨tm3 65 (by decide +kernel) (by decide +kernel), tm1 1 (by decide +kernel) (by decide +kernel), ⟨(by decide +kernel), (by decide +kernel)⟩, (by decide +kernel), by decide⟩
theorem imX11_image : Cond.instanceMethod yX11_image ∈ gw := tm3 63 (by decide +kernel) (by decide +kernel)
theorem seX11_image : Cond.selects RX11 yX11_image yX11_image ∈ gw := tm3 64 (by decide +kernel) (by decide +kernel)
abbrev mX11_back : MT := (RX11, cX11_back, 1, (some .boolean), "back", [])
theorem cwX11_back {M : MT} {i : Nat} : callW M i yX11_back mX11_back 0 := ⟨tm3 74 (by decide +kernel) (by decide +kernel), tm1 1 (by decide +kernel) (by decide +kernel), ⟨(by decide +kernel), (by decide +kernel)⟩, (by decide +kernel), by decide⟩
theorem imX11_back : Cond.instanceMethod yX11_back ∈ gw := tm3 72 (by decide +kernel) (by decide +kernel)
theorem seX11_back : Cond.selects RX11 yX11_back yX11_back ∈ gw := tm3 73 (by decide +kernel) (by decide +kernel)
abbrev mX11_count : MT := (RX11, cX11_count, 2, (some .int), "count", [])
theorem cwX11_count {M : MT} {i : Nat} : callW M i yX11_count mX11_count 1 := ⟨tm3 78 (by decide +kernel) (by decide +kernel), tm1 1 (by decide +kernel) (by decide +kernel), ⟨(by decide +kernel), (by decide +kernel)⟩, (by decide +kernel), by decide⟩
theorem imX11_count : Cond.instanceMethod yX11_count ∈ gw := tm3 76 (by decide +kernel) (by decide +kernel)
theorem seX11_count : Cond.selects RX11 yX11_count yX11_count ∈ gw := tm3 77 (by decide +kernel) (by decide +kernel)
abbrev mX11_sumOf : MT := (RX11, cX11_sumOf, 4, (some .int), "sumOf", [])
theorem cwX11_sumOf {M : MT} {i : Nat} : callW M i yX11_sumOf mX11_sumOf 1 := ⟨tm3 82 (by decide +kernel) (by decide +kernel), tm1 1 (by decide +kernel) (by decide +kernel), ⟨(by decide +kernel), (by decide +kernel)⟩, (by decide +kernel), by decide⟩
theorem imX11_sumOf : Cond.instanceMethod yX11_sumOf ∈ gw := tm3 81 (by decide +kernel) (by decide +kernel)
theorem seX11_sumOf : Cond.selects RX11 yX11_sumOf yX11_sumOf ∈ gw := pv_mem (y := yX11_sumOf) (n := 18) 6 (by decide +kernel) (by decide +kernel)
abbrev mX11_cell : MT := (RX11, cX11_cell, 2, (some .int), "cell", [])
theorem cwX11_cell {M : MT} {i : Nat} : callW M i yX11_cell mX11_cell 2 := ⟨tm2 185 (by decide +kernel) (by decide +kernel), tm1 1 (by decide +kernel) (by decide +kernel), ⟨(by decide +kernel), (by decide +kernel)⟩, (by decide +kernel), by decide⟩
theorem stX11_cell : Cond.static yX11_cell ∈ gw := tm2 184 (by decide +kernel) (by decide +kernel)
abbrev mX11_put : MT := (RX11, cX11_put, 3, none, "put", [])
theorem cwX11_put {M : MT} {i : Nat} : callW M i yX11_put mX11_put 3 := ⟨tm2 166 (by decide +kernel) (by decide +kernel), tm1 1 (by decide +kernel) (by decide +kernel), ⟨(by decide +kernel), (by decide +kernel)⟩, (by decide +kernel), by decide⟩
theorem stX11_put : Cond.static yX11_put ∈ gw := tm2 165 (by decide +kernel) (by decide +kernel)
abbrev mX12_thrown : MT := (RX12, cX12_thrown, 1, (some .int), "thrown", [])
theorem cwX12_thrown {M : MT} {i : Nat} : callW M i yX12_thrown mX12_thrown 0 := ⟨tm6 125 (by decide +kernel) (by decide +kernel), tm1 13 (by decide +kernel) (by decide +kernel), ⟨(by decide +kernel), (by decide +kernel)⟩, (by decide +kernel), by decide⟩
theorem imX12_thrown : Cond.instanceMethod yX12_thrown ∈ gw := tm6 123 (by decide +kernel) (by decide +kernel)
theorem seX12_thrown : Cond.selects RX12 yX12_thrown yX12_thrown ∈ gw := tm6 124 (by decide +kernel) (by decide +kernel)
abbrev mX12_throwsIf : MT := (RX12, cX12_throwsIf, 3, (some .boolean), "throwsIf", [])
theorem cwX12_throwsIf {M : MT} {i : Nat} : callW M i yX12_throwsIf mX12_throwsIf 2 := ⟨tm7 185 (by decide +kernel) (by decide +kernel), tm1 13 (by decide +kernel) (by decide +kernel), ⟨(by decide +kernel), (by decide +kernel)⟩, (by decide +kernel), by decide⟩
theorem imX12_throwsIf : Cond.instanceMethod yX12_throwsIf ∈ gw := tm7 184 (by decide +kernel) (by decide +kernel)
theorem seX12_throwsIf : Cond.selects RX12 yX12_throwsIf yX12_throwsIf ∈ gw := pv_mem (y := yX12_throwsIf) (n := 34) 58 (by decide +kernel) (by decide +kernel)
abbrev mX12_in : MT := (RX12, cX12_in, 3, (some .boolean), "in", [])
theorem cwX12_in {M : MT} {i : Nat} : callW M i yX12_in mX12_in 3 := ⟨tm7 98 (by decide +kernel) (by decide +kernel), tm1 13 (by decide +kernel) (by decide +kernel), ⟨(by decide +kernel), (by decide +kernel)⟩, (by decide +kernel), by decide⟩
theorem stX12_in : Cond.static yX12_in ∈ gw := tm7 97 (by decide +kernel) (by decide +kernel)
abbrev mX12_has : MT := (RX12, cX12_has, 2, (some .boolean), "has", [])
theorem cwX12_has {M : MT} {i : Nat} : callW M i yX12_has mX12_has 2 := ⟨tm8 203 (by decide +kernel) (by decide +kernel), tm1 13 (by decide +kernel) (by decide +kernel), ⟨(by decide +kernel), (by decide +kernel)⟩, (by decide +kernel), by decide⟩
theorem stX12_has : Cond.static yX12_has ∈ gw := tm8 202 (by decide +kernel) (by decide +kernel)
abbrev mX12_init : MT := (RX12, cX12_init, 1, none, "<init>", [])
theorem cwX12_init {M : MT} {i : Nat} : callW M i yX12_init mX12_init 0 := ⟨tm6 130 (by decide +kernel) (by decide +kernel), tm1 13 (by decide +kernel) (by decide +kernel), ⟨(by decide +kernel), (by decide +kernel)⟩, (by decide +kernel), by decide⟩
theorem imX12_init : Cond.instanceMethod yX12_init ∈ gw := tm6 129 (by decide +kernel) (by decide +kernel)
abbrev mX12_image : MT := (RX12, cX12_image, 2, none, "image", [])
theorem cwX12_image {M : MT} {i : Nat} : callW M i yX12_image mX12_image 0 := ⟨tm6 239 (by decide +kernel) (by decide +kernel), tm1 13 (by decide +kernel) (by decide +kernel), ⟨(by decide +kernel), (by decide +kernel)⟩, (by decide +kernel), by decide⟩
theorem imX12_image : Cond.instanceMethod yX12_image ∈ gw := tm6 237 (by decide +kernel) (by decide +kernel)
theorem seX12_image : Cond.selects RX12 yX12_image yX12_image ∈ gw := tm6 238 (by decide +kernel) (by decide +kernel)
abbrev mX12_back : MT := (RX12, cX12_back, 2, (some .boolean), "back", [])
theorem cwX12_back {M : MT} {i : Nat} : callW M i yX12_back mX12_back 0 := ⟨tm7 3 (by decide +kernel) (by decide +kernel), tm1 13 (by decide +kernel) (by decide +kernel), ⟨(by decide +kernel), (by decide +kernel)⟩, (by decide +kernel), by decide⟩
theorem imX12_back : Cond.instanceMethod yX12_back ∈ gw := tm7 1 (by decide +kernel) (by decide +kernel)
theorem seX12_back : Cond.selects RX12 yX12_back yX12_back ∈ gw := tm7 2 (by decide +kernel) (by decide +kernel)
abbrev mX12_remembers : MT := (RX12, cX12_remembers, 2, none, "remembers", [])
theorem cwX12_remembers {M : MT} {i : Nat} : callW M i yX12_remembers mX12_remembers 0 := ⟨tm8 76 (by decide +kernel) (by decide +kernel), tm1 13 (by decide +kernel) (by decide +kernel), ⟨(by decide +kernel), (by decide +kernel)⟩, (by decide +kernel), by decide⟩
theorem imX12_remembers : Cond.instanceMethod yX12_remembers ∈ gw := tm8 75 (by decide +kernel) (by decide +kernel)
theorem seX12_remembers : Cond.selects RX12 yX12_remembers yX12_remembers ∈ gw := pv_mem (y := yX12_remembers) (n := 34) 83 (by decide +kernel) (by decide +kernel)
abbrev mX12_undo : MT := (RX12, cX12_undo, 2, (some .boolean), "undo", [])
theorem cwX12_undo {M : MT} {i : Nat} : callW M i yX12_undo mX12_undo 0 := ⟨tm7 7 (by decide +kernel) (by decide +kernel), tm1 13 (by decide +kernel) (by decide +kernel), ⟨(by decide +kernel), (by decide +kernel)⟩, (by decide +kernel), by decide⟩
theorem imX12_undo : Cond.instanceMethod yX12_undo ∈ gw := tm7 5 (by decide +kernel) (by decide +kernel)
theorem seX12_undo : Cond.selects RX12 yX12_undo yX12_undo ∈ gw := tm7 6 (by decide +kernel) (by decide +kernel)
abbrev mX12_keepsAll : MT := (RX12, cX12_keepsAll, 2, none, "keepsAll", [])
theorem cwX12_keepsAll {M : MT} {i : Nat} : callW M i yX12_keepsAll mX12_keepsAll 0 := ⟨tm9 77 (by decide +kernel) (by decide +kernel), tm1 13 (by decide +kernel) (by decide +kernel), ⟨(by decide +kernel), (by decide +kernel)⟩, (by decide +kernel), by decide⟩
theorem imX12_keepsAll : Cond.instanceMethod yX12_keepsAll ∈ gw := tm9 76 (by decide +kernel) (by decide +kernel)
theorem seX12_keepsAll : Cond.selects RX12 yX12_keepsAll yX12_keepsAll ∈ gw := pv_mem (y := yX12_keepsAll) (n := 34) 114 (by decide +kernel) (by decide +kernel)
abbrev mX12_bringsBack : MT := (RX12, cX12_bringsBack, 2, none, "bringsBack", [])
theorem cwX12_bringsBack {M : MT} {i : Nat} : callW M i yX12_bringsBack mX12_bringsBack 0 := ⟨tm9 81 (by decide +kernel) (by decide +kernel), tm1 13 (by decide +kernel) (by decide +kernel), ⟨(by decide +kernel), (by decide +kernel)⟩, (by decide +kernel), by decide⟩
theorem imX12_bringsBack : Cond.instanceMethod yX12_bringsBack ∈ gw := tm9 80 (by decide +kernel) (by decide +kernel)
theorem seX12_bringsBack : Cond.selects RX12 yX12_bringsBack yX12_bringsBack ∈ gw := pv_mem (y := yX12_bringsBack) (n := 34) 115 (by decide +kernel) (by decide +kernel)
abbrev mX12_people : MT := (RX12, cX12_people, 1, (some .int), "people", [])
theorem cwX12_people {M : MT} {i : Nat} : callW M i yX12_people mX12_people 0 := ⟨tm7 66 (by decide +kernel) (by decide +kernel), tm1 13 (by decide +kernel) (by decide +kernel), ⟨(by decide +kernel), (by decide +kernel)⟩, (by decide +kernel), by decide⟩
theorem imX12_people : Cond.instanceMethod yX12_people ∈ gw := tm7 65 (by decide +kernel) (by decide +kernel)
theorem seX12_people : Cond.selects RX12 yX12_people yX12_people ∈ gw := pv_mem (y := yX12_people) (n := 34) 38 (by decide +kernel) (by decide +kernel)
abbrev mX12_personAt : MT := (RX12, cX12_personAt, 2, (some .int), "personAt", [])
theorem cwX12_personAt {M : MT} {i : Nat} : callW M i yX12_personAt mX12_personAt 2 := ⟨tm7 69 (by decide +kernel) (by decide +kernel), tm1 13 (by decide +kernel) (by decide +kernel), ⟨(by decide +kernel), (by decide +kernel)⟩, (by decide +kernel), by decide⟩
theorem stX12_personAt : Cond.static yX12_personAt ∈ gw := tm7 68 (by decide +kernel) (by decide +kernel)
abbrev mX12_of : MT := (RX12, cX12_of, 3, (some .int), "of", [])
theorem cwX12_of {M : MT} {i : Nat} : callW M i yX12_of mX12_of 2 := ⟨tm7 95 (by decide +kernel) (by decide +kernel), tm1 13 (by decide +kernel) (by decide +kernel), ⟨(by decide +kernel), (by decide +kernel)⟩, (by decide +kernel), by decide⟩
theorem imX12_of : Cond.instanceMethod yX12_of ∈ gw := tm7 94 (by decide +kernel) (by decide +kernel)
theorem seX12_of : Cond.selects RX12 yX12_of yX12_of ∈ gw := pv_mem (y := yX12_of) (n := 34) 42 (by decide +kernel) (by decide +kernel)
abbrev mX12_kindOf : MT := (RX12, cX12_kindOf, 3, (some .int), "kindOf", [])
theorem cwX12_kindOf {M : MT} {i : Nat} : callW M i yX12_kindOf mX12_kindOf 2 := ⟨tm7 221 (by decide +kernel) (by decide +kernel), tm1 13 (by decide +kernel) (by decide +kernel), ⟨(by decide +kernel), (by decide +kernel)⟩, (by decide +kernel), by decide⟩
theorem imX12_kindOf : Cond.instanceMethod yX12_kindOf ∈ gw := tm7 220 (by decide +kernel) (by decide +kernel)
theorem seX12_kindOf : Cond.selects RX12 yX12_kindOf yX12_kindOf ∈ gw := pv_mem (y := yX12_kindOf) (n := 34) 65 (by decide +kernel) (by decide +kernel)
abbrev mX12_numberOf : MT := (RX12, cX12_numberOf, 3, (some .int), "numberOf", [])
theorem cwX12_numberOf {M : MT} {i : Nat} : callW M i yX12_numberOf mX12_numberOf 2 := ⟨tm7 225 (by decide +kernel) (by decide +kernel), tm1 13 (by decide +kernel) (by decide +kernel), ⟨(by decide +kernel), (by decide +kernel)⟩, (by decide +kernel), by decide⟩
theorem imX12_numberOf : Cond.instanceMethod yX12_numberOf ∈ gw := tm7 224 (by decide +kernel) (by decide +kernel)
theorem seX12_numberOf : Cond.selects RX12 yX12_numberOf yX12_numberOf ∈ gw := pv_mem (y := yX12_numberOf) (n := 34) 66 (by decide +kernel) (by decide +kernel)
abbrev mX12_noPerson : MT := (RX12, cX12_noPerson, 2, (some .boolean), "noPerson", [])
theorem cwX12_noPerson {M : MT} {i : Nat} : callW M i yX12_noPerson mX12_noPerson 1 := ⟨tm7 197 (by decide +kernel) (by decide +kernel), tm1 13 (by decide +kernel) (by decide +kernel), ⟨(by decide +kernel), (by decide +kernel)⟩, (by decide +kernel), by decide⟩
theorem imX12_noPerson : Cond.instanceMethod yX12_noPerson ∈ gw := tm7 196 (by decide +kernel) (by decide +kernel)
theorem seX12_noPerson : Cond.selects RX12 yX12_noPerson yX12_noPerson ∈ gw := pv_mem (y := yX12_noPerson) (n := 34) 59 (by decide +kernel) (by decide +kernel)
abbrev mX12_allIn : MT := (RX12, cX12_allIn, 4, (some .int), "allIn", [])
theorem cwX12_allIn {M : MT} {i : Nat} : callW M i yX12_allIn mX12_allIn 1 := ⟨tm8 104 (by decide +kernel) (by decide +kernel), tm1 13 (by decide +kernel) (by decide +kernel), ⟨(by decide +kernel), (by decide +kernel)⟩, (by decide +kernel), by decide⟩
theorem imX12_allIn : Cond.instanceMethod yX12_allIn ∈ gw := tm8 103 (by decide +kernel) (by decide +kernel)
theorem seX12_allIn : Cond.selects RX12 yX12_allIn yX12_allIn ∈ gw := pv_mem (y := yX12_allIn) (n := 34) 89 (by decide +kernel) (by decide +kernel)
abbrev mX12_drawn : MT := (RX12, cX12_drawn, 2, (some .int), "drawn", [])
theorem cwX12_drawn {M : MT} {i : Nat} : callW M i yX12_drawn mX12_drawn 1 := ⟨tm8 92 (by decide +kernel) (by decide +kernel), tm1 13 (by decide +kernel) (by decide +kernel), ⟨(by decide +kernel), (by decide +kernel)⟩, (by decide +kernel), by decide⟩
theorem imX12_drawn : Cond.instanceMethod yX12_drawn ∈ gw := tm8 91 (by decide +kernel) (by decide +kernel)
theorem seX12_drawn : Cond.selects RX12 yX12_drawn yX12_drawn ∈ gw := pv_mem (y := yX12_drawn) (n := 34) 87 (by decide +kernel) (by decide +kernel)
abbrev mX12_feed : MT := (RX12, cX12_feed, 7, (some .int), "feed", [])
theorem cwX12_feed {M : MT} {i : Nat} : callW M i yX12_feed mX12_feed 5 := ⟨tm7 11 (by decide +kernel) (by decide +kernel), tm1 13 (by decide +kernel) (by decide +kernel), ⟨(by decide +kernel), (by decide +kernel)⟩, (by decide +kernel), by decide⟩
theorem imX12_feed : Cond.instanceMethod yX12_feed ∈ gw := tm7 9 (by decide +kernel) (by decide +kernel)
theorem seX12_feed : Cond.selects RX12 yX12_feed yX12_feed ∈ gw := tm7 10 (by decide +kernel) (by decide +kernel)
abbrev mX12_end : MT := (RX12, cX12_end, 2, (some .boolean), "end", [])
theorem cwX12_end {M : MT} {i : Nat} : callW M i yX12_end mX12_end 1 := ⟨tm7 15 (by decide +kernel) (by decide +kernel), tm1 13 (by decide +kernel) (by decide +kernel), ⟨(by decide +kernel), (by decide +kernel)⟩, (by decide +kernel), by decide⟩
theorem imX12_end : Cond.instanceMethod yX12_end ∈ gw := tm7 13 (by decide +kernel) (by decide +kernel)
theorem seX12_end : Cond.selects RX12 yX12_end yX12_end ∈ gw := tm7 14 (by decide +kernel) (by decide +kernel)
abbrev mX12_isAt : MT := (RX12, cX12_isAt, 3, (some .boolean), "isAt", [])
theorem cwX12_isAt {M : MT} {i : Nat} : callW M i yX12_isAt mX12_isAt 2 := ⟨tm7 39 (by decide +kernel) (by decide +kernel), tm1 13 (by decide +kernel) (by decide +kernel), ⟨(by decide +kernel), (by decide +kernel)⟩, (by decide +kernel), by decide⟩
theorem imX12_isAt : Cond.instanceMethod yX12_isAt ∈ gw := tm7 38 (by decide +kernel) (by decide +kernel)
theorem seX12_isAt : Cond.selects RX12 yX12_isAt yX12_isAt ∈ gw := pv_mem (y := yX12_isAt) (n := 34) 32 (by decide +kernel) (by decide +kernel)
abbrev mX12_blanks : MT := (RX12, cX12_blanks, 1, none, "blanks", [])
theorem cwX12_blanks {M : MT} {i : Nat} : callW M i yX12_blanks mX12_blanks 0 := ⟨tm7 35 (by decide +kernel) (by decide +kernel), tm1 13 (by decide +kernel) (by decide +kernel), ⟨(by decide +kernel), (by decide +kernel)⟩, (by decide +kernel), by decide⟩
theorem imX12_blanks : Cond.instanceMethod yX12_blanks ∈ gw := tm7 34 (by decide +kernel) (by decide +kernel)
theorem seX12_blanks : Cond.selects RX12 yX12_blanks yX12_blanks ∈ gw := pv_mem (y := yX12_blanks) (n := 34) 31 (by decide +kernel) (by decide +kernel)
abbrev mX12_letters : MT := (RX12, cX12_letters, 1, none, "letters", [])
theorem cwX12_letters {M : MT} {i : Nat} : callW M i yX12_letters mX12_letters 0 := ⟨tm7 47 (by decide +kernel) (by decide +kernel), tm1 13 (by decide +kernel) (by decide +kernel), ⟨(by decide +kernel), (by decide +kernel)⟩, (by decide +kernel), by decide⟩
theorem imX12_letters : Cond.instanceMethod yX12_letters ∈ gw := tm7 46 (by decide +kernel) (by decide +kernel)
theorem seX12_letters : Cond.selects RX12 yX12_letters yX12_letters ∈ gw := pv_mem (y := yX12_letters) (n := 34) 34 (by decide +kernel) (by decide +kernel)
abbrev mX12_isWord : MT := (RX12, cX12_isWord, 4, (some .boolean), "isWord", [])
theorem cwX12_isWord {M : MT} {i : Nat} : callW M i yX12_isWord mX12_isWord 1 := ⟨tm7 56 (by decide +kernel) (by decide +kernel), tm1 13 (by decide +kernel) (by decide +kernel), ⟨(by decide +kernel), (by decide +kernel)⟩, (by decide +kernel), by decide⟩
theorem imX12_isWord : Cond.instanceMethod yX12_isWord ∈ gw := tm7 55 (by decide +kernel) (by decide +kernel)
theorem seX12_isWord : Cond.selects RX12 yX12_isWord yX12_isWord ∈ gw := pv_mem (y := yX12_isWord) (n := 34) 36 (by decide +kernel) (by decide +kernel)
abbrev mX12_passes : MT := (RX12, cX12_passes, 2, (some .boolean), "passes", [])
theorem cwX12_passes {M : MT} {i : Nat} : callW M i yX12_passes mX12_passes 1 := ⟨tm7 114 (by decide +kernel) (by decide +kernel), tm1 13 (by decide +kernel) (by decide +kernel), ⟨(by decide +kernel), (by decide +kernel)⟩, (by decide +kernel), by decide⟩
theorem imX12_passes : Cond.instanceMethod yX12_passes ∈ gw := tm7 113 (by decide +kernel) (by decide +kernel)
theorem seX12_passes : Cond.selects RX12 yX12_passes yX12_passes ∈ gw := pv_mem (y := yX12_passes) (n := 34) 45 (by decide +kernel) (by decide +kernel)
abbrev mX12_sign : MT := (RX12, cX12_sign, 2, (some .boolean), "sign", [])
theorem cwX12_sign {M : MT} {i : Nat} : callW M i yX12_sign mX12_sign 1 := ⟨tm7 151 (by decide +kernel) (by decide +kernel), tm1 13 (by decide +kernel) (by decide +kernel), ⟨(by decide +kernel), (by decide +kernel)⟩, (by decide +kernel), by decide⟩
theorem imX12_sign : Cond.instanceMethod yX12_sign ∈ gw := tm7 150 (by decide +kernel) (by decide +kernel)
theorem seX12_sign : Cond.selects RX12 yX12_sign yX12_sign ∈ gw := pv_mem (y := yX12_sign) (n := 34) 52 (by decide +kernel) (by decide +kernel)
abbrev mX12_number : MT := (RX12, cX12_number, 4, (some .int), "number", [])
theorem cwX12_number {M : MT} {i : Nat} : callW M i yX12_number mX12_number 2 := ⟨tm7 105 (by decide +kernel) (by decide +kernel), tm1 13 (by decide +kernel) (by decide +kernel), ⟨(by decide +kernel), (by decide +kernel)⟩, (by decide +kernel), by decide⟩
theorem imX12_number : Cond.instanceMethod yX12_number ∈ gw := tm7 104 (by decide +kernel) (by decide +kernel)
theorem seX12_number : Cond.selects RX12 yX12_number yX12_number ∈ gw := pv_mem (y := yX12_number) (n := 34) 43 (by decide +kernel) (by decide +kernel)
abbrev mX12_told : MT := (RX12, cX12_told, 6, (some .int), "told", [])
theorem cwX12_told {M : MT} {i : Nat} : callW M i yX12_told mX12_told 4 := ⟨tm7 110 (by decide +kernel) (by decide +kernel), tm1 13 (by decide +kernel) (by decide +kernel), ⟨(by decide +kernel), (by decide +kernel)⟩, (by decide +kernel), by decide⟩
theorem imX12_told : Cond.instanceMethod yX12_told ∈ gw := tm7 109 (by decide +kernel) (by decide +kernel)
theorem seX12_told : Cond.selects RX12 yX12_told yX12_told ∈ gw := pv_mem (y := yX12_told) (n := 34) 44 (by decide +kernel) (by decide +kernel)
abbrev mX12_fault : MT := (RX12, cX12_fault, 1, (some .int), "fault", [])
theorem cwX12_fault {M : MT} {i : Nat} : callW M i yX12_fault mX12_fault 0 := ⟨tm7 19 (by decide +kernel) (by decide +kernel), tm1 13 (by decide +kernel) (by decide +kernel), ⟨(by decide +kernel), (by decide +kernel)⟩, (by decide +kernel), by decide⟩
theorem imX12_fault : Cond.instanceMethod yX12_fault ∈ gw := tm7 17 (by decide +kernel) (by decide +kernel)
theorem seX12_fault : Cond.selects RX12 yX12_fault yX12_fault ∈ gw := tm7 18 (by decide +kernel) (by decide +kernel)
abbrev mX12_uses : MT := (RX12, cX12_uses, 1, none, "uses", [])
theorem cwX12_uses {M : MT} {i : Nat} : callW M i yX12_uses mX12_uses 0 := ⟨tm7 31 (by decide +kernel) (by decide +kernel), tm1 13 (by decide +kernel) (by decide +kernel), ⟨(by decide +kernel), (by decide +kernel)⟩, (by decide +kernel), by decide⟩
theorem imX12_uses : Cond.instanceMethod yX12_uses ∈ gw := tm7 30 (by decide +kernel) (by decide +kernel)
theorem seX12_uses : Cond.selects RX12 yX12_uses yX12_uses ∈ gw := pv_mem (y := yX12_uses) (n := 34) 30 (by decide +kernel) (by decide +kernel)
abbrev mX12_readNumber : MT := (RX12, cX12_readNumber, 5, (some .boolean), "readNumber", [])
theorem cwX12_readNumber {M : MT} {i : Nat} : callW M i yX12_readNumber mX12_readNumber 3 := ⟨tm7 125 (by decide +kernel) (by decide +kernel), tm1 13 (by decide +kernel) (by decide +kernel), ⟨(by decide +kernel), (by decide +kernel)⟩, (by decide +kernel), by decide⟩
theorem imX12_readNumber : Cond.instanceMethod yX12_readNumber ∈ gw := tm7 124 (by decide +kernel) (by decide +kernel)
theorem seX12_readNumber : Cond.selects RX12 yX12_readNumber yX12_readNumber ∈ gw := pv_mem (y := yX12_readNumber) (n := 34) 47 (by decide +kernel) (by decide +kernel)
abbrev mX12_kindRead : MT := (RX12, cX12_kindRead, 1, (some .int), "kindRead", [])
theorem cwX12_kindRead {M : MT} {i : Nat} : callW M i yX12_kindRead mX12_kindRead 0 := ⟨tm7 77 (by decide +kernel) (by decide +kernel), tm1 13 (by decide +kernel) (by decide +kernel), ⟨(by decide +kernel), (by decide +kernel)⟩, (by decide +kernel), by decide⟩
theorem imX12_kindRead : Cond.instanceMethod yX12_kindRead ∈ gw := tm7 76 (by decide +kernel) (by decide +kernel)
theorem seX12_kindRead : Cond.selects RX12 yX12_kindRead yX12_kindRead ∈ gw := pv_mem (y := yX12_kindRead) (n := 34) 40 (by decide +kernel) (by decide +kernel)
abbrev mX12_hasNumber : MT := (RX12, cX12_hasNumber, 1, (some .boolean), "hasNumber", [])
theorem cwX12_hasNumber {M : MT} {i : Nat} : callW M i yX12_hasNumber mX12_hasNumber 1 := ⟨tm7 101 (by decide +kernel) (by decide +kernel), tm1 13 (by decide +kernel) (by decide +kernel), ⟨(by decide +kernel), (by decide +kernel)⟩, (by decide +kernel), by decide⟩
theorem stX12_hasNumber : Cond.static yX12_hasNumber ∈ gw := tm7 100 (by decide +kernel) (by decide +kernel)
abbrev mX12_readOathWord : MT := (RX12, cX12_readOathWord, 5, (some .boolean), "readOathWord", [])
theorem cwX12_readOathWord {M : MT} {i : Nat} : callW M i yX12_readOathWord mX12_readOathWord 2 := ⟨tm7 91 (by decide +kernel) (by decide +kernel), tm1 13 (by decide +kernel) (by decide +kernel), ⟨(by decide +kernel), (by decide +kernel)⟩, (by decide +kernel), by decide⟩
theorem imX12_readOathWord : Cond.instanceMethod yX12_readOathWord ∈ gw := tm7 90 (by decide +kernel) (by decide +kernel)
theorem seX12_readOathWord : Cond.selects RX12 yX12_readOathWord yX12_readOathWord ∈ gw := pv_mem (y := yX12_readOathWord) (n := 34) 41 (by decide +kernel) (by decide +kernel)
abbrev mX12_readOath : MT := (RX12, cX12_readOath, 3, (some .boolean), "readOath", [])
theorem cwX12_readOath {M : MT} {i : Nat} : callW M i yX12_readOath mX12_readOath 1 := ⟨tm7 73 (by decide +kernel) (by decide +kernel), tm1 13 (by decide +kernel) (by decide +kernel), ⟨(by decide +kernel), (by decide +kernel)⟩, (by decide +kernel), by decide⟩
theorem imX12_readOath : Cond.instanceMethod yX12_readOath ∈ gw := tm7 72 (by decide +kernel) (by decide +kernel)
theorem seX12_readOath : Cond.selects RX12 yX12_readOath yX12_readOath ∈ gw := pv_mem (y := yX12_readOath) (n := 34) 39 (by decide +kernel) (by decide +kernel)
abbrev mX12_readPerson : MT := (RX12, cX12_readPerson, 4, (some .boolean), "readPerson", [])
theorem cwX12_readPerson {M : MT} {i : Nat} : callW M i yX12_readPerson mX12_readPerson 0 := ⟨tm7 62 (by decide +kernel) (by decide +kernel), tm1 13 (by decide +kernel) (by decide +kernel), ⟨(by decide +kernel), (by decide +kernel)⟩, (by decide +kernel), by decide⟩
theorem imX12_readPerson : Cond.instanceMethod yX12_readPerson ∈ gw := tm7 61 (by decide +kernel) (by decide +kernel)
theorem seX12_readPerson : Cond.selects RX12 yX12_readPerson yX12_readPerson ∈ gw := pv_mem (y := yX12_readPerson) (n := 34) 37 (by decide +kernel) (by decide +kernel)
abbrev mX12_readMode : MT := (RX12, cX12_readMode, 2, (some .boolean), "readMode", [])
theorem cwX12_readMode {M : MT} {i : Nat} : callW M i yX12_readMode mX12_readMode 0 := ⟨tm7 121 (by decide +kernel) (by decide +kernel), tm1 13 (by decide +kernel) (by decide +kernel), ⟨(by decide +kernel), (by decide +kernel)⟩, (by decide +kernel), by decide⟩
theorem imX12_readMode : Cond.instanceMethod yX12_readMode ∈ gw := tm7 120 (by decide +kernel) (by decide +kernel)
theorem seX12_readMode : Cond.selects RX12 yX12_readMode yX12_readMode ∈ gw := pv_mem (y := yX12_readMode) (n := 34) 46 (by decide +kernel) (by decide +kernel)
abbrev mX12_readHillsLine : MT := (RX12, cX12_readHillsLine, 1, (some .boolean), "readHillsLine", [])
theorem cwX12_readHillsLine {M : MT} {i : Nat} : callW M i yX12_readHillsLine mX12_readHillsLine 0 := ⟨tm7 51 (by decide +kernel) (by decide +kernel), tm1 13 (by decide +kernel) (by decide +kernel), ⟨(by decide +kernel), (by decide +kernel)⟩, (by decide +kernel), by decide⟩
theorem imX12_readHillsLine : Cond.instanceMethod yX12_readHillsLine ∈ gw := tm7 50 (by decide +kernel) (by decide +kernel)
theorem seX12_readHillsLine : Cond.selects RX12 yX12_readHillsLine yX12_readHillsLine ∈ gw := pv_mem (y := yX12_readHillsLine) (n := 34) 35 (by decide +kernel) (by decide +kernel)
abbrev mX12_emits : MT := (RX12, cX12_emits, 3, none, "emits", [])
theorem cwX12_emits {M : MT} {i : Nat} : callW M i yX12_emits mX12_emits 2 := ⟨tm7 155 (by decide +kernel) (by decide +kernel), tm1 13 (by decide +kernel) (by decide +kernel), ⟨(by decide +kernel), (by decide +kernel)⟩, (by decide +kernel), by decide⟩
theorem imX12_emits : Cond.instanceMethod yX12_emits ∈ gw := tm7 154 (by decide +kernel) (by decide +kernel)
theorem seX12_emits : Cond.selects RX12 yX12_emits yX12_emits ∈ gw := pv_mem (y := yX12_emits) (n := 34) 53 (by decide +kernel) (by decide +kernel)
abbrev mX12_wordOfPart : MT := (RX12, cX12_wordOfPart, 1, (some .int), "wordOfPart", [])
theorem cwX12_wordOfPart {M : MT} {i : Nat} : callW M i yX12_wordOfPart mX12_wordOfPart 0 := ⟨tm7 174 (by decide +kernel) (by decide +kernel), tm1 13 (by decide +kernel) (by decide +kernel), ⟨(by decide +kernel), (by decide +kernel)⟩, (by decide +kernel), by decide⟩
theorem imX12_wordOfPart : Cond.instanceMethod yX12_wordOfPart ∈ gw := tm7 173 (by decide +kernel) (by decide +kernel)
theorem seX12_wordOfPart : Cond.selects RX12 yX12_wordOfPart yX12_wordOfPart ∈ gw := pv_mem (y := yX12_wordOfPart) (n := 34) 57 (by decide +kernel) (by decide +kernel)
abbrev mX12_readPart : MT := (RX12, cX12_readPart, 3, (some .boolean), "readPart", [])
theorem cwX12_readPart {M : MT} {i : Nat} : callW M i yX12_readPart mX12_readPart 0 := ⟨tm7 170 (by decide +kernel) (by decide +kernel), tm1 13 (by decide +kernel) (by decide +kernel), ⟨(by decide +kernel), (by decide +kernel)⟩, (by decide +kernel), by decide⟩
theorem imX12_readPart : Cond.instanceMethod yX12_readPart ∈ gw := tm7 169 (by decide +kernel) (by decide +kernel)
theorem seX12_readPart : Cond.selects RX12 yX12_readPart yX12_readPart ∈ gw := pv_mem (y := yX12_readPart) (n := 34) 56 (by decide +kernel) (by decide +kernel)
abbrev mX12_readSum : MT := (RX12, cX12_readSum, 1, (some .boolean), "readSum", [])
theorem cwX12_readSum {M : MT} {i : Nat} : callW M i yX12_readSum mX12_readSum 0 := ⟨tm7 166 (by decide +kernel) (by decide +kernel), tm1 13 (by decide +kernel) (by decide +kernel), ⟨(by decide +kernel), (by decide +kernel)⟩, (by decide +kernel), by decide⟩
theorem imX12_readSum : Cond.instanceMethod yX12_readSum ∈ gw := tm7 165 (by decide +kernel) (by decide +kernel)
theorem seX12_readSum : Cond.selects RX12 yX12_readSum yX12_readSum ∈ gw := pv_mem (y := yX12_readSum) (n := 34) 55 (by decide +kernel) (by decide +kernel)
abbrev mX12_readTag : MT := (RX12, cX12_readTag, 2, (some .boolean), "readTag", [])
theorem cwX12_readTag {M : MT} {i : Nat} : callW M i yX12_readTag mX12_readTag 0 := ⟨tm7 159 (by decide +kernel) (by decide +kernel), tm1 13 (by decide +kernel) (by decide +kernel), ⟨(by decide +kernel), (by decide +kernel)⟩, (by decide +kernel), by decide⟩
theorem imX12_readTag : Cond.instanceMethod yX12_readTag ∈ gw := tm7 158 (by decide +kernel) (by decide +kernel)
theorem seX12_readTag : Cond.selects RX12 yX12_readTag yX12_readTag ∈ gw := pv_mem (y := yX12_readTag) (n := 34) 54 (by decide +kernel) (by decide +kernel)
abbrev mX12_readAtom : MT := (RX12, cX12_readAtom, 2, (some .boolean), "readAtom", [])
theorem cwX12_readAtom {M : MT} {i : Nat} : callW M i yX12_readAtom mX12_readAtom 0 := ⟨tm7 147 (by decide +kernel) (by decide +kernel), tm1 13 (by decide +kernel) (by decide +kernel), ⟨(by decide +kernel), (by decide +kernel)⟩, (by decide +kernel), by decide⟩
theorem imX12_readAtom : Cond.instanceMethod yX12_readAtom ∈ gw := tm7 146 (by decide +kernel) (by decide +kernel)
theorem seX12_readAtom : Cond.selects RX12 yX12_readAtom yX12_readAtom ∈ gw := pv_mem (y := yX12_readAtom) (n := 34) 51 (by decide +kernel) (by decide +kernel)
abbrev mX12_readAllOf : MT := (RX12, cX12_readAllOf, 1, (some .boolean), "readAllOf", [])
theorem cwX12_readAllOf {M : MT} {i : Nat} : callW M i yX12_readAllOf mX12_readAllOf 0 := ⟨tm7 143 (by decide +kernel) (by decide +kernel), tm1 13 (by decide +kernel) (by decide +kernel), ⟨(by decide +kernel), (by decide +kernel)⟩, (by decide +kernel), by decide⟩
theorem imX12_readAllOf : Cond.instanceMethod yX12_readAllOf ∈ gw := tm7 142 (by decide +kernel) (by decide +kernel)
theorem seX12_readAllOf : Cond.selects RX12 yX12_readAllOf yX12_readAllOf ∈ gw := pv_mem (y := yX12_readAllOf) (n := 34) 50 (by decide +kernel) (by decide +kernel)
abbrev mX12_readCond : MT := (RX12, cX12_readCond, 1, (some .boolean), "readCond", [])
theorem cwX12_readCond {M : MT} {i : Nat} : callW M i yX12_readCond mX12_readCond 0 := ⟨tm7 139 (by decide +kernel) (by decide +kernel), tm1 13 (by decide +kernel) (by decide +kernel), ⟨(by decide +kernel), (by decide +kernel)⟩, (by decide +kernel), by decide⟩
theorem imX12_readCond : Cond.instanceMethod yX12_readCond ∈ gw := tm7 138 (by decide +kernel) (by decide +kernel)
theorem seX12_readCond : Cond.selects RX12 yX12_readCond yX12_readCond ∈ gw := pv_mem (y := yX12_readCond) (n := 34) 49 (by decide +kernel) (by decide +kernel)
abbrev mX12_readLawLine : MT := (RX12, cX12_readLawLine, 3, (some .boolean), "readLawLine", [])
theorem cwX12_readLawLine {M : MT} {i : Nat} : callW M i yX12_readLawLine mX12_readLawLine 1 := ⟨tm7 132 (by decide +kernel) (by decide +kernel), tm1 13 (by decide +kernel) (by decide +kernel), ⟨(by decide +kernel), (by decide +kernel)⟩, (by decide +kernel), by decide⟩
theorem imX12_readLawLine : Cond.instanceMethod yX12_readLawLine ∈ gw := tm7 131 (by decide +kernel) (by decide +kernel)
theorem seX12_readLawLine : Cond.selects RX12 yX12_readLawLine yX12_readLawLine ∈ gw := pv_mem (y := yX12_readLawLine) (n := 34) 48 (by decide +kernel) (by decide +kernel)
abbrev mX12_readLine : MT := (RX12, cX12_readLine, 3, (some .boolean), "readLine", [])
theorem cwX12_readLine {M : MT} {i : Nat} : callW M i yX12_readLine mX12_readLine 2 := ⟨tm7 43 (by decide +kernel) (by decide +kernel), tm1 13 (by decide +kernel) (by decide +kernel), ⟨(by decide +kernel), (by decide +kernel)⟩, (by decide +kernel), by decide⟩
theorem imX12_readLine : Cond.instanceMethod yX12_readLine ∈ gw := tm7 42 (by decide +kernel) (by decide +kernel)
theorem seX12_readLine : Cond.selects RX12 yX12_readLine yX12_readLine ∈ gw := pv_mem (y := yX12_readLine) (n := 34) 33 (by decide +kernel) (by decide +kernel)
abbrev mX12_readAll : MT := (RX12, cX12_readAll, 3, (some .int), "readAll", [])
theorem cwX12_readAll {M : MT} {i : Nat} : callW M i yX12_readAll mX12_readAll 1 := ⟨tm7 27 (by decide +kernel) (by decide +kernel), tm1 13 (by decide +kernel) (by decide +kernel), ⟨(by decide +kernel), (by decide +kernel)⟩, (by decide +kernel), by decide⟩
theorem imX12_readAll : Cond.instanceMethod yX12_readAll ∈ gw := tm7 26 (by decide +kernel) (by decide +kernel)
theorem seX12_readAll : Cond.selects RX12 yX12_readAll yX12_readAll ∈ gw := pv_mem (y := yX12_readAll) (n := 34) 29 (by decide +kernel) (by decide +kernel)
abbrev mX12_hills : MT := (RX12, cX12_hills, 3, (some .int), "hills", [])
theorem cwX12_hills {M : MT} {i : Nat} : callW M i yX12_hills mX12_hills 0 := ⟨tm7 23 (by decide +kernel) (by decide +kernel), tm1 13 (by decide +kernel) (by decide +kernel), ⟨(by decide +kernel), (by decide +kernel)⟩, (by decide +kernel), by decide⟩
theorem imX12_hills : Cond.instanceMethod yX12_hills ∈ gw := tm7 21 (by decide +kernel) (by decide +kernel)
theorem seX12_hills : Cond.selects RX12 yX12_hills yX12_hills ∈ gw := tm7 22 (by decide +kernel) (by decide +kernel)
abbrev mX12_law : MT := (RX12, cX12_law, 3, (some .int), "law", [])
theorem cwX12_law {M : MT} {i : Nat} : callW M i yX12_law mX12_law 0 := ⟨tm7 189 (by decide +kernel) (by decide +kernel), tm1 13 (by decide +kernel) (by decide +kernel), ⟨(by decide +kernel), (by decide +kernel)⟩, (by decide +kernel), by decide⟩
theorem imX12_law : Cond.instanceMethod yX12_law ∈ gw := tm7 187 (by decide +kernel) (by decide +kernel)
theorem seX12_law : Cond.selects RX12 yX12_law yX12_law ∈ gw := tm7 188 (by decide +kernel) (by decide +kernel)
abbrev mX12_begins : MT := (RX12, cX12_begins, 3, none, "begins", [])
theorem cwX12_begins {M : MT} {i : Nat} : callW M i yX12_begins mX12_begins 1 := ⟨tm7 217 (by decide +kernel) (by decide +kernel), tm1 13 (by decide +kernel) (by decide +kernel), ⟨(by decide +kernel), (by decide +kernel)⟩, (by decide +kernel), by decide⟩
theorem imX12_begins : Cond.instanceMethod yX12_begins ∈ gw := tm7 216 (by decide +kernel) (by decide +kernel)
theorem seX12_begins : Cond.selects RX12 yX12_begins yX12_begins ∈ gw := pv_mem (y := yX12_begins) (n := 34) 64 (by decide +kernel) (by decide +kernel)
abbrev mX12_isLaid : MT := (RX12, cX12_isLaid, 3, none, "isLaid", [])
theorem cwX12_isLaid {M : MT} {i : Nat} : callW M i yX12_isLaid mX12_isLaid 0 := ⟨tm7 234 (by decide +kernel) (by decide +kernel), tm1 13 (by decide +kernel) (by decide +kernel), ⟨(by decide +kernel), (by decide +kernel)⟩, (by decide +kernel), by decide⟩
theorem imX12_isLaid : Cond.instanceMethod yX12_isLaid ∈ gw := tm7 233 (by decide +kernel) (by decide +kernel)
theorem seX12_isLaid : Cond.selects RX12 yX12_isLaid yX12_isLaid ∈ gw := pv_mem (y := yX12_isLaid) (n := 34) 68 (by decide +kernel) (by decide +kernel)
abbrev mX12_comes : MT := (RX12, cX12_comes, 4, none, "comes", [])
theorem cwX12_comes {M : MT} {i : Nat} : callW M i yX12_comes mX12_comes 2 := ⟨tm7 229 (by decide +kernel) (by decide +kernel), tm1 13 (by decide +kernel) (by decide +kernel), ⟨(by decide +kernel), (by decide +kernel)⟩, (by decide +kernel), by decide⟩
theorem imX12_comes : Cond.instanceMethod yX12_comes ∈ gw := tm7 228 (by decide +kernel) (by decide +kernel)
theorem seX12_comes : Cond.selects RX12 yX12_comes yX12_comes ∈ gw := pv_mem (y := yX12_comes) (n := 34) 67 (by decide +kernel) (by decide +kernel)
abbrev mX12_endsClauses : MT := (RX12, cX12_endsClauses, 3, none, "endsClauses", [])
theorem cwX12_endsClauses {M : MT} {i : Nat} : callW M i yX12_endsClauses mX12_endsClauses 0 := ⟨tm7 238 (by decide +kernel) (by decide +kernel), tm1 13 (by decide +kernel) (by decide +kernel), ⟨(by decide +kernel), (by decide +kernel)⟩, (by decide +kernel), by decide⟩
theorem imX12_endsClauses : Cond.instanceMethod yX12_endsClauses ∈ gw := tm7 237 (by decide +kernel) (by decide +kernel)
theorem seX12_endsClauses : Cond.selects RX12 yX12_endsClauses yX12_endsClauses ∈ gw := pv_mem (y := yX12_endsClauses) (n := 34) 69 (by decide +kernel) (by decide +kernel)
abbrev mX12_inOrder : MT := (RX12, cX12_inOrder, 2, none, "inOrder", [])
theorem cwX12_inOrder {M : MT} {i : Nat} : callW M i yX12_inOrder mX12_inOrder 0 := ⟨tm7 205 (by decide +kernel) (by decide +kernel), tm1 13 (by decide +kernel) (by decide +kernel), ⟨(by decide +kernel), (by decide +kernel)⟩, (by decide +kernel), by decide⟩
theorem imX12_inOrder : Cond.instanceMethod yX12_inOrder ∈ gw := tm7 204 (by decide +kernel) (by decide +kernel)
theorem seX12_inOrder : Cond.selects RX12 yX12_inOrder yX12_inOrder ∈ gw := pv_mem (y := yX12_inOrder) (n := 34) 61 (by decide +kernel) (by decide +kernel)
abbrev mX12_reads : MT := (RX12, cX12_reads, 4, none, "reads", [])
theorem cwX12_reads {M : MT} {i : Nat} : callW M i yX12_reads mX12_reads 2 := ⟨tm7 213 (by decide +kernel) (by decide +kernel), tm1 13 (by decide +kernel) (by decide +kernel), ⟨(by decide +kernel), (by decide +kernel)⟩, (by decide +kernel), by decide⟩
theorem imX12_reads : Cond.instanceMethod yX12_reads ∈ gw := tm7 212 (by decide +kernel) (by decide +kernel)
theorem seX12_reads : Cond.selects RX12 yX12_reads yX12_reads ∈ gw := pv_mem (y := yX12_reads) (n := 34) 63 (by decide +kernel) (by decide +kernel)
abbrev mX12_factOf : MT := (RX12, cX12_factOf, 3, (some .int), "factOf", [])
theorem cwX12_factOf {M : MT} {i : Nat} : callW M i yX12_factOf mX12_factOf 2 := ⟨tm8 20 (by decide +kernel) (by decide +kernel), tm1 13 (by decide +kernel) (by decide +kernel), ⟨(by decide +kernel), (by decide +kernel)⟩, (by decide +kernel), by decide⟩
theorem imX12_factOf : Cond.instanceMethod yX12_factOf ∈ gw := tm8 19 (by decide +kernel) (by decide +kernel)
theorem seX12_factOf : Cond.selects RX12 yX12_factOf yX12_factOf ∈ gw := pv_mem (y := yX12_factOf) (n := 34) 74 (by decide +kernel) (by decide +kernel)
abbrev mX12_holdsLine : MT := (RX12, cX12_holdsLine, 9, (some .boolean), "holdsLine", [])
theorem cwX12_holdsLine {M : MT} {i : Nat} : callW M i yX12_holdsLine mX12_holdsLine 1 := ⟨tm8 16 (by decide +kernel) (by decide +kernel), tm1 13 (by decide +kernel) (by decide +kernel), ⟨(by decide +kernel), (by decide +kernel)⟩, (by decide +kernel), by decide⟩
theorem imX12_holdsLine : Cond.instanceMethod yX12_holdsLine ∈ gw := tm8 15 (by decide +kernel) (by decide +kernel)
theorem seX12_holdsLine : Cond.selects RX12 yX12_holdsLine yX12_holdsLine ∈ gw := pv_mem (y := yX12_holdsLine) (n := 34) 73 (by decide +kernel) (by decide +kernel)
abbrev mX12_sumOf : MT := (RX12, cX12_sumOf, 4, (some .int), "sumOf", [])
theorem cwX12_sumOf {M : MT} {i : Nat} : callW M i yX12_sumOf mX12_sumOf 1 := ⟨tm8 12 (by decide +kernel) (by decide +kernel), tm1 13 (by decide +kernel) (by decide +kernel), ⟨(by decide +kernel), (by decide +kernel)⟩, (by decide +kernel), by decide⟩
theorem imX12_sumOf : Cond.instanceMethod yX12_sumOf ∈ gw := tm8 11 (by decide +kernel) (by decide +kernel)
theorem seX12_sumOf : Cond.selects RX12 yX12_sumOf yX12_sumOf ∈ gw := pv_mem (y := yX12_sumOf) (n := 34) 72 (by decide +kernel) (by decide +kernel)
abbrev mX12_baseOf : MT := (RX12, cX12_baseOf, 2, (some .int), "baseOf", [])
theorem cwX12_baseOf {M : MT} {i : Nat} : callW M i yX12_baseOf mX12_baseOf 0 := ⟨tm8 6 (by decide +kernel) (by decide +kernel), tm1 13 (by decide +kernel) (by decide +kernel), ⟨(by decide +kernel), (by decide +kernel)⟩, (by decide +kernel), by decide⟩
theorem imX12_baseOf : Cond.instanceMethod yX12_baseOf ∈ gw := tm8 5 (by decide +kernel) (by decide +kernel)
theorem seX12_baseOf : Cond.selects RX12 yX12_baseOf yX12_baseOf ∈ gw := pv_mem (y := yX12_baseOf) (n := 34) 71 (by decide +kernel) (by decide +kernel)
abbrev mX12_weighs : MT := (RX12, cX12_weighs, 1, (some .int), "weighs", [])
theorem cwX12_weighs {M : MT} {i : Nat} : callW M i yX12_weighs mX12_weighs 0 := ⟨tm8 2 (by decide +kernel) (by decide +kernel), tm1 13 (by decide +kernel) (by decide +kernel), ⟨(by decide +kernel), (by decide +kernel)⟩, (by decide +kernel), by decide⟩
theorem imX12_weighs : Cond.instanceMethod yX12_weighs ∈ gw := tm8 1 (by decide +kernel) (by decide +kernel)
theorem seX12_weighs : Cond.selects RX12 yX12_weighs yX12_weighs ∈ gw := pv_mem (y := yX12_weighs) (n := 34) 70 (by decide +kernel) (by decide +kernel)
abbrev mX12_hears : MT := (RX12, cX12_hears, 1, (some .int), "hears", [])
theorem cwX12_hears {M : MT} {i : Nat} : callW M i yX12_hears mX12_hears 0 := ⟨tm8 60 (by decide +kernel) (by decide +kernel), tm1 13 (by decide +kernel) (by decide +kernel), ⟨(by decide +kernel), (by decide +kernel)⟩, (by decide +kernel), by decide⟩
theorem imX12_hears : Cond.instanceMethod yX12_hears ∈ gw := tm8 59 (by decide +kernel) (by decide +kernel)
theorem seX12_hears : Cond.selects RX12 yX12_hears yX12_hears ∈ gw := pv_mem (y := yX12_hears) (n := 34) 82 (by decide +kernel) (by decide +kernel)
abbrev mX12_weightAt : MT := (RX12, cX12_weightAt, 3, (some .int), "weightAt", [])
theorem cwX12_weightAt {M : MT} {i : Nat} : callW M i yX12_weightAt mX12_weightAt 2 := ⟨tm7 209 (by decide +kernel) (by decide +kernel), tm1 13 (by decide +kernel) (by decide +kernel), ⟨(by decide +kernel), (by decide +kernel)⟩, (by decide +kernel), by decide⟩
theorem imX12_weightAt : Cond.instanceMethod yX12_weightAt ∈ gw := tm7 208 (by decide +kernel) (by decide +kernel)
theorem seX12_weightAt : Cond.selects RX12 yX12_weightAt yX12_weightAt ∈ gw := pv_mem (y := yX12_weightAt) (n := 34) 62 (by decide +kernel) (by decide +kernel)
abbrev mX12_whatRead : MT := (RX12, cX12_whatRead, 2, (some .int), "whatRead", [])
theorem cwX12_whatRead {M : MT} {i : Nat} : callW M i yX12_whatRead mX12_whatRead 1 := ⟨tm8 56 (by decide +kernel) (by decide +kernel), tm1 13 (by decide +kernel) (by decide +kernel), ⟨(by decide +kernel), (by decide +kernel)⟩, (by decide +kernel), by decide⟩
theorem imX12_whatRead : Cond.instanceMethod yX12_whatRead ∈ gw := tm8 55 (by decide +kernel) (by decide +kernel)
theorem seX12_whatRead : Cond.selects RX12 yX12_whatRead yX12_whatRead ∈ gw := pv_mem (y := yX12_whatRead) (n := 34) 81 (by decide +kernel) (by decide +kernel)
abbrev mX12_isTold : MT := (RX12, cX12_isTold, 6, none, "isTold", [])
theorem cwX12_isTold {M : MT} {i : Nat} : callW M i yX12_isTold mX12_isTold 4 := ⟨tm8 108 (by decide +kernel) (by decide +kernel), tm1 13 (by decide +kernel) (by decide +kernel), ⟨(by decide +kernel), (by decide +kernel)⟩, (by decide +kernel), by decide⟩
theorem imX12_isTold : Cond.instanceMethod yX12_isTold ∈ gw := tm8 107 (by decide +kernel) (by decide +kernel)
theorem seX12_isTold : Cond.selects RX12 yX12_isTold yX12_isTold ∈ gw := pv_mem (y := yX12_isTold) (n := 34) 90 (by decide +kernel) (by decide +kernel)
abbrev mX12_isHeld : MT := (RX12, cX12_isHeld, 5, none, "isHeld", [])
theorem cwX12_isHeld {M : MT} {i : Nat} : callW M i yX12_isHeld mX12_isHeld 3 := ⟨tm8 112 (by decide +kernel) (by decide +kernel), tm1 13 (by decide +kernel) (by decide +kernel), ⟨(by decide +kernel), (by decide +kernel)⟩, (by decide +kernel), by decide⟩
theorem imX12_isHeld : Cond.instanceMethod yX12_isHeld ∈ gw := tm8 111 (by decide +kernel) (by decide +kernel)
theorem seX12_isHeld : Cond.selects RX12 yX12_isHeld yX12_isHeld ∈ gw := pv_mem (y := yX12_isHeld) (n := 34) 91 (by decide +kernel) (by decide +kernel)
abbrev mX12_isBroken : MT := (RX12, cX12_isBroken, 6, (some .int), "isBroken", [])
theorem cwX12_isBroken {M : MT} {i : Nat} : callW M i yX12_isBroken mX12_isBroken 2 := ⟨tm8 100 (by decide +kernel) (by decide +kernel), tm1 13 (by decide +kernel) (by decide +kernel), ⟨(by decide +kernel), (by decide +kernel)⟩, (by decide +kernel), by decide⟩
theorem imX12_isBroken : Cond.instanceMethod yX12_isBroken ∈ gw := tm8 99 (by decide +kernel) (by decide +kernel)
theorem seX12_isBroken : Cond.selects RX12 yX12_isBroken yX12_isBroken ∈ gw := pv_mem (y := yX12_isBroken) (n := 34) 88 (by decide +kernel) (by decide +kernel)
abbrev mX12_chanceOf : MT := (RX12, cX12_chanceOf, 2, (some .int), "chanceOf", [])
theorem cwX12_chanceOf {M : MT} {i : Nat} : callW M i yX12_chanceOf mX12_chanceOf 2 := ⟨tm8 96 (by decide +kernel) (by decide +kernel), tm1 13 (by decide +kernel) (by decide +kernel), ⟨(by decide +kernel), (by decide +kernel)⟩, (by decide +kernel), by decide⟩
theorem stX12_chanceOf : Cond.static yX12_chanceOf ∈ gw := tm8 95 (by decide +kernel) (by decide +kernel)
abbrev mX12_speaksOn : MT := (RX12, cX12_speaksOn, 3, (some .boolean), "speaksOn", [])
theorem cwX12_speaksOn {M : MT} {i : Nat} : callW M i yX12_speaksOn mX12_speaksOn 1 := ⟨tm8 88 (by decide +kernel) (by decide +kernel), tm1 13 (by decide +kernel) (by decide +kernel), ⟨(by decide +kernel), (by decide +kernel)⟩, (by decide +kernel), by decide⟩
theorem imX12_speaksOn : Cond.instanceMethod yX12_speaksOn ∈ gw := tm8 87 (by decide +kernel) (by decide +kernel)
theorem seX12_speaksOn : Cond.selects RX12 yX12_speaksOn yX12_speaksOn ∈ gw := pv_mem (y := yX12_speaksOn) (n := 34) 86 (by decide +kernel) (by decide +kernel)
abbrev mX12_oneHour : MT := (RX12, cX12_oneHour, 3, (some .int), "oneHour", [])
theorem cwX12_oneHour {M : MT} {i : Nat} : callW M i yX12_oneHour mX12_oneHour 0 := ⟨tm8 84 (by decide +kernel) (by decide +kernel), tm1 13 (by decide +kernel) (by decide +kernel), ⟨(by decide +kernel), (by decide +kernel)⟩, (by decide +kernel), by decide⟩
theorem imX12_oneHour : Cond.instanceMethod yX12_oneHour ∈ gw := tm8 83 (by decide +kernel) (by decide +kernel)
theorem seX12_oneHour : Cond.selects RX12 yX12_oneHour yX12_oneHour ∈ gw := pv_mem (y := yX12_oneHour) (n := 34) 85 (by decide +kernel) (by decide +kernel)
abbrev mX12_goesOn : MT := (RX12, cX12_goesOn, 4, (some .int), "goesOn", [])
theorem cwX12_goesOn {M : MT} {i : Nat} : callW M i yX12_goesOn mX12_goesOn 1 := ⟨tm8 80 (by decide +kernel) (by decide +kernel), tm1 13 (by decide +kernel) (by decide +kernel), ⟨(by decide +kernel), (by decide +kernel)⟩, (by decide +kernel), by decide⟩
theorem imX12_goesOn : Cond.instanceMethod yX12_goesOn ∈ gw := tm8 79 (by decide +kernel) (by decide +kernel)
theorem seX12_goesOn : Cond.selects RX12 yX12_goesOn yX12_goesOn ∈ gw := pv_mem (y := yX12_goesOn) (n := 34) 84 (by decide +kernel) (by decide +kernel)
abbrev mX12_wordAt : MT := (RX12, cX12_wordAt, 6, (some .int), "wordAt", [])
theorem cwX12_wordAt {M : MT} {i : Nat} : callW M i yX12_wordAt mX12_wordAt 2 := ⟨tm7 201 (by decide +kernel) (by decide +kernel), tm1 13 (by decide +kernel) (by decide +kernel), ⟨(by decide +kernel), (by decide +kernel)⟩, (by decide +kernel), by decide⟩
theorem imX12_wordAt : Cond.instanceMethod yX12_wordAt ∈ gw := tm7 200 (by decide +kernel) (by decide +kernel)
theorem seX12_wordAt : Cond.selects RX12 yX12_wordAt yX12_wordAt ∈ gw := pv_mem (y := yX12_wordAt) (n := 34) 60 (by decide +kernel) (by decide +kernel)
abbrev mX12_sureOf : MT := (RX12, cX12_sureOf, 4, (some .int), "sureOf", [])
theorem cwX12_sureOf {M : MT} {i : Nat} : callW M i yX12_sureOf mX12_sureOf 1 := ⟨tm8 24 (by decide +kernel) (by decide +kernel), tm1 13 (by decide +kernel) (by decide +kernel), ⟨(by decide +kernel), (by decide +kernel)⟩, (by decide +kernel), by decide⟩
theorem imX12_sureOf : Cond.instanceMethod yX12_sureOf ∈ gw := tm8 23 (by decide +kernel) (by decide +kernel)
theorem seX12_sureOf : Cond.selects RX12 yX12_sureOf yX12_sureOf ∈ gw := pv_mem (y := yX12_sureOf) (n := 34) 75 (by decide +kernel) (by decide +kernel)
abbrev mX12_needOf : MT := (RX12, cX12_needOf, 2, (some .int), "needOf", [])
theorem cwX12_needOf {M : MT} {i : Nat} : callW M i yX12_needOf mX12_needOf 1 := ⟨tm8 28 (by decide +kernel) (by decide +kernel), tm1 13 (by decide +kernel) (by decide +kernel), ⟨(by decide +kernel), (by decide +kernel)⟩, (by decide +kernel), by decide⟩
theorem imX12_needOf : Cond.instanceMethod yX12_needOf ∈ gw := tm8 27 (by decide +kernel) (by decide +kernel)
theorem seX12_needOf : Cond.selects RX12 yX12_needOf yX12_needOf ∈ gw := pv_mem (y := yX12_needOf) (n := 34) 76 (by decide +kernel) (by decide +kernel)
abbrev mX12_goingOf : MT := (RX12, cX12_goingOf, 6, (some .int), "goingOf", [])
theorem cwX12_goingOf {M : MT} {i : Nat} : callW M i yX12_goingOf mX12_goingOf 1 := ⟨tm8 32 (by decide +kernel) (by decide +kernel), tm1 13 (by decide +kernel) (by decide +kernel), ⟨(by decide +kernel), (by decide +kernel)⟩, (by decide +kernel), by decide⟩
theorem imX12_goingOf : Cond.instanceMethod yX12_goingOf ∈ gw := tm8 31 (by decide +kernel) (by decide +kernel)
theorem seX12_goingOf : Cond.selects RX12 yX12_goingOf yX12_goingOf ∈ gw := pv_mem (y := yX12_goingOf) (n := 34) 77 (by decide +kernel) (by decide +kernel)
abbrev mX12_countsOf : MT := (RX12, cX12_countsOf, 2, (some .int), "countsOf", [])
theorem cwX12_countsOf {M : MT} {i : Nat} : callW M i yX12_countsOf mX12_countsOf 1 := ⟨tm8 44 (by decide +kernel) (by decide +kernel), tm1 13 (by decide +kernel) (by decide +kernel), ⟨(by decide +kernel), (by decide +kernel)⟩, (by decide +kernel), by decide⟩
theorem imX12_countsOf : Cond.instanceMethod yX12_countsOf ∈ gw := tm8 43 (by decide +kernel) (by decide +kernel)
theorem seX12_countsOf : Cond.selects RX12 yX12_countsOf yX12_countsOf ∈ gw := pv_mem (y := yX12_countsOf) (n := 34) 80 (by decide +kernel) (by decide +kernel)
abbrev mX12_heldWeight : MT := (RX12, cX12_heldWeight, 2, (some .int), "heldWeight", [])
theorem cwX12_heldWeight {M : MT} {i : Nat} : callW M i yX12_heldWeight mX12_heldWeight 1 := ⟨tm8 40 (by decide +kernel) (by decide +kernel), tm1 13 (by decide +kernel) (by decide +kernel), ⟨(by decide +kernel), (by decide +kernel)⟩, (by decide +kernel), by decide⟩
theorem imX12_heldWeight : Cond.instanceMethod yX12_heldWeight ∈ gw := tm8 39 (by decide +kernel) (by decide +kernel)
theorem seX12_heldWeight : Cond.selects RX12 yX12_heldWeight yX12_heldWeight ∈ gw := pv_mem (y := yX12_heldWeight) (n := 34) 79 (by decide +kernel) (by decide +kernel)
abbrev mX12_shareOf : MT := (RX12, cX12_shareOf, 4, (some .int), "shareOf", [])
theorem cwX12_shareOf {M : MT} {i : Nat} : callW M i yX12_shareOf mX12_shareOf 1 := ⟨tm8 36 (by decide +kernel) (by decide +kernel), tm1 13 (by decide +kernel) (by decide +kernel), ⟨(by decide +kernel), (by decide +kernel)⟩, (by decide +kernel), by decide⟩
theorem imX12_shareOf : Cond.instanceMethod yX12_shareOf ∈ gw := tm8 35 (by decide +kernel) (by decide +kernel)
theorem seX12_shareOf : Cond.selects RX12 yX12_shareOf yX12_shareOf ∈ gw := pv_mem (y := yX12_shareOf) (n := 34) 78 (by decide +kernel) (by decide +kernel)
abbrev mX12_person : MT := (RX12, cX12_person, 3, (some .int), "person", [])
theorem cwX12_person {M : MT} {i : Nat} : callW M i yX12_person mX12_person 2 := ⟨tm7 193 (by decide +kernel) (by decide +kernel), tm1 13 (by decide +kernel) (by decide +kernel), ⟨(by decide +kernel), (by decide +kernel)⟩, (by decide +kernel), by decide⟩
theorem imX12_person : Cond.instanceMethod yX12_person ∈ gw := tm7 191 (by decide +kernel) (by decide +kernel)
theorem seX12_person : Cond.selects RX12 yX12_person yX12_person ∈ gw := tm7 192 (by decide +kernel) (by decide +kernel)
abbrev mX12_word : MT := (RX12, cX12_word, 4, (some .int), "word", [])
theorem cwX12_word {M : MT} {i : Nat} : callW M i yX12_word mX12_word 3 := ⟨tm8 48 (by decide +kernel) (by decide +kernel), tm1 13 (by decide +kernel) (by decide +kernel), ⟨(by decide +kernel), (by decide +kernel)⟩, (by decide +kernel), by decide⟩
theorem imX12_word : Cond.instanceMethod yX12_word ∈ gw := tm8 46 (by decide +kernel) (by decide +kernel)
theorem seX12_word : Cond.selects RX12 yX12_word yX12_word ∈ gw := tm8 47 (by decide +kernel) (by decide +kernel)
abbrev mX12_reading : MT := (RX12, cX12_reading, 4, (some .int), "reading", [])
theorem cwX12_reading {M : MT} {i : Nat} : callW M i yX12_reading mX12_reading 3 := ⟨tm8 52 (by decide +kernel) (by decide +kernel), tm1 13 (by decide +kernel) (by decide +kernel), ⟨(by decide +kernel), (by decide +kernel)⟩, (by decide +kernel), by decide⟩
theorem imX12_reading : Cond.instanceMethod yX12_reading ∈ gw := tm8 50 (by decide +kernel) (by decide +kernel)
theorem seX12_reading : Cond.selects RX12 yX12_reading yX12_reading ∈ gw := tm8 51 (by decide +kernel) (by decide +kernel)
abbrev mX12_hold : MT := (RX12, cX12_hold, 3, (some .int), "hold", [])
theorem cwX12_hold {M : MT} {i : Nat} : callW M i yX12_hold mX12_hold 2 := ⟨tm8 64 (by decide +kernel) (by decide +kernel), tm1 13 (by decide +kernel) (by decide +kernel), ⟨(by decide +kernel), (by decide +kernel)⟩, (by decide +kernel), by decide⟩
theorem imX12_hold : Cond.instanceMethod yX12_hold ∈ gw := tm8 62 (by decide +kernel) (by decide +kernel)
theorem seX12_hold : Cond.selects RX12 yX12_hold yX12_hold ∈ gw := tm8 63 (by decide +kernel) (by decide +kernel)
abbrev mX12_mode : MT := (RX12, cX12_mode, 2, (some .int), "mode", [])
theorem cwX12_mode {M : MT} {i : Nat} : callW M i yX12_mode mX12_mode 1 := ⟨tm8 68 (by decide +kernel) (by decide +kernel), tm1 13 (by decide +kernel) (by decide +kernel), ⟨(by decide +kernel), (by decide +kernel)⟩, (by decide +kernel), by decide⟩
theorem imX12_mode : Cond.instanceMethod yX12_mode ∈ gw := tm8 66 (by decide +kernel) (by decide +kernel)
theorem seX12_mode : Cond.selects RX12 yX12_mode yX12_mode ∈ gw := tm8 67 (by decide +kernel) (by decide +kernel)
abbrev mX12_hours : MT := (RX12, cX12_hours, 2, (some .int), "hours", [])
theorem cwX12_hours {M : MT} {i : Nat} : callW M i yX12_hours mX12_hours 1 := ⟨tm8 72 (by decide +kernel) (by decide +kernel), tm1 13 (by decide +kernel) (by decide +kernel), ⟨(by decide +kernel), (by decide +kernel)⟩, (by decide +kernel), by decide⟩
theorem imX12_hours : Cond.instanceMethod yX12_hours ∈ gw := tm8 70 (by decide +kernel) (by decide +kernel)
theorem seX12_hours : Cond.selects RX12 yX12_hours yX12_hours ∈ gw := tm8 71 (by decide +kernel) (by decide +kernel)
abbrev mX12_isNot : MT := (RX12, cX12_isNot, 3, (some .boolean), "isNot", [])
theorem cwX12_isNot {M : MT} {i : Nat} : callW M i yX12_isNot mX12_isNot 2 := ⟨tm8 120 (by decide +kernel) (by decide +kernel), tm1 13 (by decide +kernel) (by decide +kernel), ⟨(by decide +kernel), (by decide +kernel)⟩, (by decide +kernel), by decide⟩
theorem imX12_isNot : Cond.instanceMethod yX12_isNot ∈ gw := tm8 119 (by decide +kernel) (by decide +kernel)
theorem seX12_isNot : Cond.selects RX12 yX12_isNot yX12_isNot ∈ gw := pv_mem (y := yX12_isNot) (n := 34) 92 (by decide +kernel) (by decide +kernel)
abbrev mX12_begin : MT := (RX12, cX12_begin, 2, (some .int), "begin", [])
theorem cwX12_begin {M : MT} {i : Nat} : callW M i yX12_begin mX12_begin 1 := ⟨tm8 116 (by decide +kernel) (by decide +kernel), tm1 13 (by decide +kernel) (by decide +kernel), ⟨(by decide +kernel), (by decide +kernel)⟩, (by decide +kernel), by decide⟩
theorem imX12_begin : Cond.instanceMethod yX12_begin ∈ gw := tm8 114 (by decide +kernel) (by decide +kernel)
theorem seX12_begin : Cond.selects RX12 yX12_begin yX12_begin ∈ gw := tm8 115 (by decide +kernel) (by decide +kernel)
abbrev mX12_stop : MT := (RX12, cX12_stop, 3, (some .int), "stop", [])
theorem cwX12_stop {M : MT} {i : Nat} : callW M i yX12_stop mX12_stop 2 := ⟨tm8 124 (by decide +kernel) (by decide +kernel), tm1 13 (by decide +kernel) (by decide +kernel), ⟨(by decide +kernel), (by decide +kernel)⟩, (by decide +kernel), by decide⟩
theorem imX12_stop : Cond.instanceMethod yX12_stop ∈ gw := tm8 122 (by decide +kernel) (by decide +kernel)
theorem seX12_stop : Cond.selects RX12 yX12_stop yX12_stop ∈ gw := tm8 123 (by decide +kernel) (by decide +kernel)
abbrev mX12_finish : MT := (RX12, cX12_finish, 2, (some .int), "finish", [])
theorem cwX12_finish {M : MT} {i : Nat} : callW M i yX12_finish mX12_finish 1 := ⟨tm8 128 (by decide +kernel) (by decide +kernel), tm1 13 (by decide +kernel) (by decide +kernel), ⟨(by decide +kernel), (by decide +kernel)⟩, (by decide +kernel), by decide⟩
theorem imX12_finish : Cond.instanceMethod yX12_finish ∈ gw := tm8 126 (by decide +kernel) (by decide +kernel)
theorem seX12_finish : Cond.selects RX12 yX12_finish yX12_finish ∈ gw := tm8 127 (by decide +kernel) (by decide +kernel)
abbrev mX12_retract : MT := (RX12, cX12_retract, 3, (some .int), "retract", [])
theorem cwX12_retract {M : MT} {i : Nat} : callW M i yX12_retract mX12_retract 1 := ⟨tm8 132 (by decide +kernel) (by decide +kernel), tm1 13 (by decide +kernel) (by decide +kernel), ⟨(by decide +kernel), (by decide +kernel)⟩, (by decide +kernel), by decide⟩
theorem imX12_retract : Cond.instanceMethod yX12_retract ∈ gw := tm8 130 (by decide +kernel) (by decide +kernel)
theorem seX12_retract : Cond.selects RX12 yX12_retract yX12_retract ∈ gw := tm8 131 (by decide +kernel) (by decide +kernel)
abbrev mX12_isNow : MT := (RX12, cX12_isNow, 4, (some .int), "isNow", [])
theorem cwX12_isNow {M : MT} {i : Nat} : callW M i yX12_isNow mX12_isNow 2 := ⟨tm8 140 (by decide +kernel) (by decide +kernel), tm1 13 (by decide +kernel) (by decide +kernel), ⟨(by decide +kernel), (by decide +kernel)⟩, (by decide +kernel), by decide⟩
theorem imX12_isNow : Cond.instanceMethod yX12_isNow ∈ gw := tm8 139 (by decide +kernel) (by decide +kernel)
theorem seX12_isNow : Cond.selects RX12 yX12_isNow yX12_isNow ∈ gw := pv_mem (y := yX12_isNow) (n := 34) 93 (by decide +kernel) (by decide +kernel)
abbrev mX12_guard : MT := (RX12, cX12_guard, 3, (some .int), "guard", [])
theorem cwX12_guard {M : MT} {i : Nat} : callW M i yX12_guard mX12_guard 2 := ⟨tm8 136 (by decide +kernel) (by decide +kernel), tm1 13 (by decide +kernel) (by decide +kernel), ⟨(by decide +kernel), (by decide +kernel)⟩, (by decide +kernel), by decide⟩
theorem imX12_guard : Cond.instanceMethod yX12_guard ∈ gw := tm8 134 (by decide +kernel) (by decide +kernel)
theorem seX12_guard : Cond.selects RX12 yX12_guard yX12_guard ∈ gw := tm8 135 (by decide +kernel) (by decide +kernel)
abbrev mX12_noise : MT := (RX12, cX12_noise, 2, (some .int), "noise", [])
theorem cwX12_noise {M : MT} {i : Nat} : callW M i yX12_noise mX12_noise 1 := ⟨tm8 144 (by decide +kernel) (by decide +kernel), tm1 13 (by decide +kernel) (by decide +kernel), ⟨(by decide +kernel), (by decide +kernel)⟩, (by decide +kernel), by decide⟩
theorem imX12_noise : Cond.instanceMethod yX12_noise ∈ gw := tm8 142 (by decide +kernel) (by decide +kernel)
theorem seX12_noise : Cond.selects RX12 yX12_noise yX12_noise ∈ gw := tm8 143 (by decide +kernel) (by decide +kernel)
abbrev mX12_turn : MT := (RX12, cX12_turn, 3, (some .int), "turn", [])
theorem cwX12_turn {M : MT} {i : Nat} : callW M i yX12_turn mX12_turn 2 := ⟨tm8 148 (by decide +kernel) (by decide +kernel), tm1 13 (by decide +kernel) (by decide +kernel), ⟨(by decide +kernel), (by decide +kernel)⟩, (by decide +kernel), by decide⟩
theorem imX12_turn : Cond.instanceMethod yX12_turn ∈ gw := tm8 146 (by decide +kernel) (by decide +kernel)
theorem seX12_turn : Cond.selects RX12 yX12_turn yX12_turn ∈ gw := tm8 147 (by decide +kernel) (by decide +kernel)
abbrev mX12_repeat : MT := (RX12, cX12_repeat, 4, (some .int), "repeat", [])
theorem cwX12_repeat {M : MT} {i : Nat} : callW M i yX12_repeat mX12_repeat 2 := ⟨tm8 152 (by decide +kernel) (by decide +kernel), tm1 13 (by decide +kernel) (by decide +kernel), ⟨(by decide +kernel), (by decide +kernel)⟩, (by decide +kernel), by decide⟩
theorem imX12_repeat : Cond.instanceMethod yX12_repeat ∈ gw := tm8 150 (by decide +kernel) (by decide +kernel)
theorem seX12_repeat : Cond.selects RX12 yX12_repeat yX12_repeat ∈ gw := tm8 151 (by decide +kernel) (by decide +kernel)
abbrev mX12_laysUnits : MT := (RX12, cX12_laysUnits, 4, none, "laysUnits", [])
theorem cwX12_laysUnits {M : MT} {i : Nat} : callW M i yX12_laysUnits mX12_laysUnits 1 := ⟨tm8 160 (by decide +kernel) (by decide +kernel), tm1 13 (by decide +kernel) (by decide +kernel), ⟨(by decide +kernel), (by decide +kernel)⟩, (by decide +kernel), by decide⟩
theorem imX12_laysUnits : Cond.instanceMethod yX12_laysUnits ∈ gw := tm8 159 (by decide +kernel) (by decide +kernel)
theorem seX12_laysUnits : Cond.selects RX12 yX12_laysUnits yX12_laysUnits ∈ gw := pv_mem (y := yX12_laysUnits) (n := 34) 94 (by decide +kernel) (by decide +kernel)
abbrev mX12_laysOrder : MT := (RX12, cX12_laysOrder, 9, none, "laysOrder", [])
theorem cwX12_laysOrder {M : MT} {i : Nat} : callW M i yX12_laysOrder mX12_laysOrder 1 := ⟨tm8 168 (by decide +kernel) (by decide +kernel), tm1 13 (by decide +kernel) (by decide +kernel), ⟨(by decide +kernel), (by decide +kernel)⟩, (by decide +kernel), by decide⟩
theorem imX12_laysOrder : Cond.instanceMethod yX12_laysOrder ∈ gw := tm8 167 (by decide +kernel) (by decide +kernel)
theorem seX12_laysOrder : Cond.selects RX12 yX12_laysOrder yX12_laysOrder ∈ gw := pv_mem (y := yX12_laysOrder) (n := 34) 96 (by decide +kernel) (by decide +kernel)
abbrev mX12_putsInOrder : MT := (RX12, cX12_putsInOrder, 4, none, "putsInOrder", [])
theorem cwX12_putsInOrder {M : MT} {i : Nat} : callW M i yX12_putsInOrder mX12_putsInOrder 0 := ⟨tm8 176 (by decide +kernel) (by decide +kernel), tm1 13 (by decide +kernel) (by decide +kernel), ⟨(by decide +kernel), (by decide +kernel)⟩, (by decide +kernel), by decide⟩
theorem imX12_putsInOrder : Cond.instanceMethod yX12_putsInOrder ∈ gw := tm8 175 (by decide +kernel) (by decide +kernel)
theorem seX12_putsInOrder : Cond.selects RX12 yX12_putsInOrder yX12_putsInOrder ∈ gw := pv_mem (y := yX12_putsInOrder) (n := 34) 97 (by decide +kernel) (by decide +kernel)
abbrev mX12_orders : MT := (RX12, cX12_orders, 3, (some .int), "orders", [])
theorem cwX12_orders {M : MT} {i : Nat} : callW M i yX12_orders mX12_orders 0 := ⟨tm8 164 (by decide +kernel) (by decide +kernel), tm1 13 (by decide +kernel) (by decide +kernel), ⟨(by decide +kernel), (by decide +kernel)⟩, (by decide +kernel), by decide⟩
theorem imX12_orders : Cond.instanceMethod yX12_orders ∈ gw := tm8 163 (by decide +kernel) (by decide +kernel)
theorem seX12_orders : Cond.selects RX12 yX12_orders yX12_orders ∈ gw := pv_mem (y := yX12_orders) (n := 34) 95 (by decide +kernel) (by decide +kernel)
abbrev mX12_order : MT := (RX12, cX12_order, 7, (some .int), "order", [])
theorem cwX12_order {M : MT} {i : Nat} : callW M i yX12_order mX12_order 2 := ⟨tm8 156 (by decide +kernel) (by decide +kernel), tm1 13 (by decide +kernel) (by decide +kernel), ⟨(by decide +kernel), (by decide +kernel)⟩, (by decide +kernel), by decide⟩
theorem imX12_order : Cond.instanceMethod yX12_order ∈ gw := tm8 154 (by decide +kernel) (by decide +kernel)
theorem seX12_order : Cond.selects RX12 yX12_order yX12_order ∈ gw := tm8 155 (by decide +kernel) (by decide +kernel)
abbrev mX12_fence : MT := (RX12, cX12_fence, 7, (some .int), "fence", [])
theorem cwX12_fence {M : MT} {i : Nat} : callW M i yX12_fence mX12_fence 2 := ⟨tm8 180 (by decide +kernel) (by decide +kernel), tm1 13 (by decide +kernel) (by decide +kernel), ⟨(by decide +kernel), (by decide +kernel)⟩, (by decide +kernel), by decide⟩
theorem imX12_fence : Cond.instanceMethod yX12_fence ∈ gw := tm8 178 (by decide +kernel) (by decide +kernel)
theorem seX12_fence : Cond.selects RX12 yX12_fence yX12_fence ∈ gw := tm8 179 (by decide +kernel) (by decide +kernel)
abbrev mX12_laysHeld : MT := (RX12, cX12_laysHeld, 2, none, "laysHeld", [])
theorem cwX12_laysHeld {M : MT} {i : Nat} : callW M i yX12_laysHeld mX12_laysHeld 0 := ⟨tm8 188 (by decide +kernel) (by decide +kernel), tm1 13 (by decide +kernel) (by decide +kernel), ⟨(by decide +kernel), (by decide +kernel)⟩, (by decide +kernel), by decide⟩
theorem imX12_laysHeld : Cond.instanceMethod yX12_laysHeld ∈ gw := tm8 187 (by decide +kernel) (by decide +kernel)
theorem seX12_laysHeld : Cond.selects RX12 yX12_laysHeld yX12_laysHeld ∈ gw := pv_mem (y := yX12_laysHeld) (n := 34) 98 (by decide +kernel) (by decide +kernel)
abbrev mX12_gainsays : MT := (RX12, cX12_gainsays, 4, (some .boolean), "gainsays", [])
theorem cwX12_gainsays {M : MT} {i : Nat} : callW M i yX12_gainsays mX12_gainsays 2 := ⟨tm8 192 (by decide +kernel) (by decide +kernel), tm1 13 (by decide +kernel) (by decide +kernel), ⟨(by decide +kernel), (by decide +kernel)⟩, (by decide +kernel), by decide⟩
theorem imX12_gainsays : Cond.instanceMethod yX12_gainsays ∈ gw := tm8 191 (by decide +kernel) (by decide +kernel)
theorem seX12_gainsays : Cond.selects RX12 yX12_gainsays yX12_gainsays ∈ gw := pv_mem (y := yX12_gainsays) (n := 34) 99 (by decide +kernel) (by decide +kernel)
abbrev mX12_gainsay : MT := (RX12, cX12_gainsay, 3, (some .boolean), "gainsay", [])
theorem cwX12_gainsay {M : MT} {i : Nat} : callW M i yX12_gainsay mX12_gainsay 2 := ⟨tm8 184 (by decide +kernel) (by decide +kernel), tm1 13 (by decide +kernel) (by decide +kernel), ⟨(by decide +kernel), (by decide +kernel)⟩, (by decide +kernel), by decide⟩
theorem imX12_gainsay : Cond.instanceMethod yX12_gainsay ∈ gw := tm8 182 (by decide +kernel) (by decide +kernel)
theorem seX12_gainsay : Cond.selects RX12 yX12_gainsay yX12_gainsay ∈ gw := tm8 183 (by decide +kernel) (by decide +kernel)
abbrev mX12_isPeace : MT := (RX12, cX12_isPeace, 5, (some .boolean), "isPeace", [])
theorem cwX12_isPeace {M : MT} {i : Nat} : callW M i yX12_isPeace mX12_isPeace 1 := ⟨tm8 200 (by decide +kernel) (by decide +kernel), tm1 13 (by decide +kernel) (by decide +kernel), ⟨(by decide +kernel), (by decide +kernel)⟩, (by decide +kernel), by decide⟩
theorem imX12_isPeace : Cond.instanceMethod yX12_isPeace ∈ gw := tm8 199 (by decide +kernel) (by decide +kernel)
theorem seX12_isPeace : Cond.selects RX12 yX12_isPeace yX12_isPeace ∈ gw := pv_mem (y := yX12_isPeace) (n := 34) 100 (by decide +kernel) (by decide +kernel)
abbrev mX12_peace : MT := (RX12, cX12_peace, 4, (some .int), "peace", [])
theorem cwX12_peace {M : MT} {i : Nat} : callW M i yX12_peace mX12_peace 0 := ⟨tm8 196 (by decide +kernel) (by decide +kernel), tm1 13 (by decide +kernel) (by decide +kernel), ⟨(by decide +kernel), (by decide +kernel)⟩, (by decide +kernel), by decide⟩
theorem imX12_peace : Cond.instanceMethod yX12_peace ∈ gw := tm8 194 (by decide +kernel) (by decide +kernel)
theorem seX12_peace : Cond.selects RX12 yX12_peace yX12_peace ∈ gw := tm8 195 (by decide +kernel) (by decide +kernel)
abbrev mX12_quiet : MT := (RX12, cX12_quiet, 4, (some .int), "quiet", [])
theorem cwX12_quiet {M : MT} {i : Nat} : callW M i yX12_quiet mX12_quiet 0 := ⟨tm8 207 (by decide +kernel) (by decide +kernel), tm1 13 (by decide +kernel) (by decide +kernel), ⟨(by decide +kernel), (by decide +kernel)⟩, (by decide +kernel), by decide⟩
theorem imX12_quiet : Cond.instanceMethod yX12_quiet ∈ gw := tm8 205 (by decide +kernel) (by decide +kernel)
theorem seX12_quiet : Cond.selects RX12 yX12_quiet yX12_quiet ∈ gw := tm8 206 (by decide +kernel) (by decide +kernel)
abbrev mX12_areTold : MT := (RX12, cX12_areTold, 3, (some .boolean), "areTold", [])
theorem cwX12_areTold {M : MT} {i : Nat} : callW M i yX12_areTold mX12_areTold 0 := ⟨tm8 215 (by decide +kernel) (by decide +kernel), tm1 13 (by decide +kernel) (by decide +kernel), ⟨(by decide +kernel), (by decide +kernel)⟩, (by decide +kernel), by decide⟩
theorem imX12_areTold : Cond.instanceMethod yX12_areTold ∈ gw := tm8 214 (by decide +kernel) (by decide +kernel)
theorem seX12_areTold : Cond.selects RX12 yX12_areTold yX12_areTold ∈ gw := pv_mem (y := yX12_areTold) (n := 34) 101 (by decide +kernel) (by decide +kernel)
abbrev mX12_kindAt : MT := (RX12, cX12_kindAt, 3, (some .int), "kindAt", [])
theorem cwX12_kindAt {M : MT} {i : Nat} : callW M i yX12_kindAt mX12_kindAt 2 := ⟨tm8 227 (by decide +kernel) (by decide +kernel), tm1 13 (by decide +kernel) (by decide +kernel), ⟨(by decide +kernel), (by decide +kernel)⟩, (by decide +kernel), by decide⟩
theorem imX12_kindAt : Cond.instanceMethod yX12_kindAt ∈ gw := tm8 226 (by decide +kernel) (by decide +kernel)
theorem seX12_kindAt : Cond.selects RX12 yX12_kindAt yX12_kindAt ∈ gw := pv_mem (y := yX12_kindAt) (n := 34) 104 (by decide +kernel) (by decide +kernel)
abbrev mX12_wrongRows : MT := (RX12, cX12_wrongRows, 4, (some .int), "wrongRows", [])
theorem cwX12_wrongRows {M : MT} {i : Nat} : callW M i yX12_wrongRows mX12_wrongRows 1 := ⟨tm8 223 (by decide +kernel) (by decide +kernel), tm1 13 (by decide +kernel) (by decide +kernel), ⟨(by decide +kernel), (by decide +kernel)⟩, (by decide +kernel), by decide⟩
theorem imX12_wrongRows : Cond.instanceMethod yX12_wrongRows ∈ gw := tm8 222 (by decide +kernel) (by decide +kernel)
theorem seX12_wrongRows : Cond.selects RX12 yX12_wrongRows yX12_wrongRows ∈ gw := pv_mem (y := yX12_wrongRows) (n := 34) 103 (by decide +kernel) (by decide +kernel)
abbrev mX12_thatFit : MT := (RX12, cX12_thatFit, 4, (some .int), "thatFit", [])
theorem cwX12_thatFit {M : MT} {i : Nat} : callW M i yX12_thatFit mX12_thatFit 1 := ⟨tm8 219 (by decide +kernel) (by decide +kernel), tm1 13 (by decide +kernel) (by decide +kernel), ⟨(by decide +kernel), (by decide +kernel)⟩, (by decide +kernel), by decide⟩
theorem imX12_thatFit : Cond.instanceMethod yX12_thatFit ∈ gw := tm8 218 (by decide +kernel) (by decide +kernel)
theorem seX12_thatFit : Cond.selects RX12 yX12_thatFit yX12_thatFit ∈ gw := pv_mem (y := yX12_thatFit) (n := 34) 102 (by decide +kernel) (by decide +kernel)
abbrev mX12_whose : MT := (RX12, cX12_whose, 1, (some .int), "whose", [])
theorem cwX12_whose {M : MT} {i : Nat} : callW M i yX12_whose mX12_whose 0 := ⟨tm8 211 (by decide +kernel) (by decide +kernel), tm1 13 (by decide +kernel) (by decide +kernel), ⟨(by decide +kernel), (by decide +kernel)⟩, (by decide +kernel), by decide⟩
theorem imX12_whose : Cond.instanceMethod yX12_whose ∈ gw := tm8 209 (by decide +kernel) (by decide +kernel)
theorem seX12_whose : Cond.selects RX12 yX12_whose yX12_whose ∈ gw := tm8 210 (by decide +kernel) (by decide +kernel)
abbrev mX12_firstOf : MT := (RX12, cX12_firstOf, 1, (some .int), "firstOf", [])
theorem cwX12_firstOf {M : MT} {i : Nat} : callW M i yX12_firstOf mX12_firstOf 1 := ⟨tm8 234 (by decide +kernel) (by decide +kernel), tm1 13 (by decide +kernel) (by decide +kernel), ⟨(by decide +kernel), (by decide +kernel)⟩, (by decide +kernel), by decide⟩
theorem stX12_firstOf : Cond.static yX12_firstOf ∈ gw := tm8 233 (by decide +kernel) (by decide +kernel)
abbrev mX12_likely : MT := (RX12, cX12_likely, 2, (some .int), "likely", [])
theorem cwX12_likely {M : MT} {i : Nat} : callW M i yX12_likely mX12_likely 0 := ⟨tm8 231 (by decide +kernel) (by decide +kernel), tm1 13 (by decide +kernel) (by decide +kernel), ⟨(by decide +kernel), (by decide +kernel)⟩, (by decide +kernel), by decide⟩
theorem imX12_likely : Cond.instanceMethod yX12_likely ∈ gw := tm8 229 (by decide +kernel) (by decide +kernel)
theorem seX12_likely : Cond.selects RX12 yX12_likely yX12_likely ∈ gw := tm8 230 (by decide +kernel) (by decide +kernel)
abbrev mX12_partBy : MT := (RX12, cX12_partBy, 7, (some .int), "partBy", [])
theorem cwX12_partBy {M : MT} {i : Nat} : callW M i yX12_partBy mX12_partBy 2 := ⟨tm9 2 (by decide +kernel) (by decide +kernel), tm1 13 (by decide +kernel) (by decide +kernel), ⟨(by decide +kernel), (by decide +kernel)⟩, (by decide +kernel), by decide⟩
theorem imX12_partBy : Cond.instanceMethod yX12_partBy ∈ gw := tm9 1 (by decide +kernel) (by decide +kernel)
theorem seX12_partBy : Cond.selects RX12 yX12_partBy yX12_partBy ∈ gw := pv_mem (y := yX12_partBy) (n := 34) 105 (by decide +kernel) (by decide +kernel)
abbrev mX12_ask : MT := (RX12, cX12_ask, 6, (some .int), "ask", [])
theorem cwX12_ask {M : MT} {i : Nat} : callW M i yX12_ask mX12_ask 0 := ⟨tm8 238 (by decide +kernel) (by decide +kernel), tm1 13 (by decide +kernel) (by decide +kernel), ⟨(by decide +kernel), (by decide +kernel)⟩, (by decide +kernel), by decide⟩
theorem imX12_ask : Cond.instanceMethod yX12_ask ∈ gw := tm8 236 (by decide +kernel) (by decide +kernel)
theorem seX12_ask : Cond.selects RX12 yX12_ask yX12_ask ∈ gw := tm8 237 (by decide +kernel) (by decide +kernel)
abbrev mX12_areCoughs : MT := (RX12, cX12_areCoughs, 4, (some .boolean), "areCoughs", [])
theorem cwX12_areCoughs {M : MT} {i : Nat} : callW M i yX12_areCoughs mX12_areCoughs 1 := ⟨tm9 10 (by decide +kernel) (by decide +kernel), tm1 13 (by decide +kernel) (by decide +kernel), ⟨(by decide +kernel), (by decide +kernel)⟩, (by decide +kernel), by decide⟩
theorem imX12_areCoughs : Cond.instanceMethod yX12_areCoughs ∈ gw := tm9 9 (by decide +kernel) (by decide +kernel)
theorem seX12_areCoughs : Cond.selects RX12 yX12_areCoughs yX12_areCoughs ∈ gw := pv_mem (y := yX12_areCoughs) (n := 34) 106 (by decide +kernel) (by decide +kernel)
abbrev mX12_laysWins : MT := (RX12, cX12_laysWins, 5, none, "laysWins", [])
theorem cwX12_laysWins {M : MT} {i : Nat} : callW M i yX12_laysWins mX12_laysWins 0 := ⟨tm9 14 (by decide +kernel) (by decide +kernel), tm1 13 (by decide +kernel) (by decide +kernel), ⟨(by decide +kernel), (by decide +kernel)⟩, (by decide +kernel), by decide⟩
theorem imX12_laysWins : Cond.instanceMethod yX12_laysWins ∈ gw := tm9 13 (by decide +kernel) (by decide +kernel)
theorem seX12_laysWins : Cond.selects RX12 yX12_laysWins yX12_laysWins ∈ gw := pv_mem (y := yX12_laysWins) (n := 34) 107 (by decide +kernel) (by decide +kernel)
abbrev mX12_coughs : MT := (RX12, cX12_coughs, 2, (some .boolean), "coughs", [])
theorem cwX12_coughs {M : MT} {i : Nat} : callW M i yX12_coughs mX12_coughs 1 := ⟨tm9 6 (by decide +kernel) (by decide +kernel), tm1 13 (by decide +kernel) (by decide +kernel), ⟨(by decide +kernel), (by decide +kernel)⟩, (by decide +kernel), by decide⟩
theorem imX12_coughs : Cond.instanceMethod yX12_coughs ∈ gw := tm9 4 (by decide +kernel) (by decide +kernel)
theorem seX12_coughs : Cond.selects RX12 yX12_coughs yX12_coughs ∈ gw := tm9 5 (by decide +kernel) (by decide +kernel)
abbrev mX12_first : MT := (RX12, cX12_first, 4, (some .int), "first", [])
theorem cwX12_first {M : MT} {i : Nat} : callW M i yX12_first mX12_first 1 := ⟨tm9 18 (by decide +kernel) (by decide +kernel), tm1 13 (by decide +kernel) (by decide +kernel), ⟨(by decide +kernel), (by decide +kernel)⟩, (by decide +kernel), by decide⟩
theorem imX12_first : Cond.instanceMethod yX12_first ∈ gw := tm9 16 (by decide +kernel) (by decide +kernel)
theorem seX12_first : Cond.selects RX12 yX12_first yX12_first ∈ gw := tm9 17 (by decide +kernel) (by decide +kernel)
abbrev mX12_alikeOf : MT := (RX12, cX12_alikeOf, 5, (some .int), "alikeOf", [])
theorem cwX12_alikeOf {M : MT} {i : Nat} : callW M i yX12_alikeOf mX12_alikeOf 2 := ⟨tm9 34 (by decide +kernel) (by decide +kernel), tm1 13 (by decide +kernel) (by decide +kernel), ⟨(by decide +kernel), (by decide +kernel)⟩, (by decide +kernel), by decide⟩
theorem imX12_alikeOf : Cond.instanceMethod yX12_alikeOf ∈ gw := tm9 33 (by decide +kernel) (by decide +kernel)
theorem seX12_alikeOf : Cond.selects RX12 yX12_alikeOf yX12_alikeOf ∈ gw := pv_mem (y := yX12_alikeOf) (n := 34) 110 (by decide +kernel) (by decide +kernel)
abbrev mX12_pairedBy : MT := (RX12, cX12_pairedBy, 5, (some .int), "pairedBy", [])
theorem cwX12_pairedBy {M : MT} {i : Nat} : callW M i yX12_pairedBy mX12_pairedBy 2 := ⟨tm9 30 (by decide +kernel) (by decide +kernel), tm1 13 (by decide +kernel) (by decide +kernel), ⟨(by decide +kernel), (by decide +kernel)⟩, (by decide +kernel), by decide⟩
theorem imX12_pairedBy : Cond.instanceMethod yX12_pairedBy ∈ gw := tm9 29 (by decide +kernel) (by decide +kernel)
theorem seX12_pairedBy : Cond.selects RX12 yX12_pairedBy yX12_pairedBy ∈ gw := pv_mem (y := yX12_pairedBy) (n := 34) 109 (by decide +kernel) (by decide +kernel)
abbrev mX12_laysPairs : MT := (RX12, cX12_laysPairs, 4, none, "laysPairs", [])
theorem cwX12_laysPairs {M : MT} {i : Nat} : callW M i yX12_laysPairs mX12_laysPairs 0 := ⟨tm9 26 (by decide +kernel) (by decide +kernel), tm1 13 (by decide +kernel) (by decide +kernel), ⟨(by decide +kernel), (by decide +kernel)⟩, (by decide +kernel), by decide⟩
theorem imX12_laysPairs : Cond.instanceMethod yX12_laysPairs ∈ gw := tm9 25 (by decide +kernel) (by decide +kernel)
theorem seX12_laysPairs : Cond.selects RX12 yX12_laysPairs yX12_laysPairs ∈ gw := pv_mem (y := yX12_laysPairs) (n := 34) 108 (by decide +kernel) (by decide +kernel)
abbrev mX12_pairs : MT := (RX12, cX12_pairs, 7, (some .int), "pairs", [])
theorem cwX12_pairs {M : MT} {i : Nat} : callW M i yX12_pairs mX12_pairs 1 := ⟨tm9 22 (by decide +kernel) (by decide +kernel), tm1 13 (by decide +kernel) (by decide +kernel), ⟨(by decide +kernel), (by decide +kernel)⟩, (by decide +kernel), by decide⟩
theorem imX12_pairs : Cond.instanceMethod yX12_pairs ∈ gw := tm9 20 (by decide +kernel) (by decide +kernel)
theorem seX12_pairs : Cond.selects RX12 yX12_pairs yX12_pairs ∈ gw := tm9 21 (by decide +kernel) (by decide +kernel)
abbrev mX12_speakerHas : MT := (RX12, cX12_speakerHas, 4, (some .int), "speakerHas", [])
theorem cwX12_speakerHas {M : MT} {i : Nat} : callW M i yX12_speakerHas mX12_speakerHas 3 := ⟨tm9 42 (by decide +kernel) (by decide +kernel), tm1 13 (by decide +kernel) (by decide +kernel), ⟨(by decide +kernel), (by decide +kernel)⟩, (by decide +kernel), by decide⟩
theorem imX12_speakerHas : Cond.instanceMethod yX12_speakerHas ∈ gw := tm9 41 (by decide +kernel) (by decide +kernel)
theorem seX12_speakerHas : Cond.selects RX12 yX12_speakerHas yX12_speakerHas ∈ gw := pv_mem (y := yX12_speakerHas) (n := 34) 111 (by decide +kernel) (by decide +kernel)
abbrev mX12_rivalHas : MT := (RX12, cX12_rivalHas, 4, (some .int), "rivalHas", [])
theorem cwX12_rivalHas {M : MT} {i : Nat} : callW M i yX12_rivalHas mX12_rivalHas 3 := ⟨tm9 46 (by decide +kernel) (by decide +kernel), tm1 13 (by decide +kernel) (by decide +kernel), ⟨(by decide +kernel), (by decide +kernel)⟩, (by decide +kernel), by decide⟩
theorem imX12_rivalHas : Cond.instanceMethod yX12_rivalHas ∈ gw := tm9 45 (by decide +kernel) (by decide +kernel)
theorem seX12_rivalHas : Cond.selects RX12 yX12_rivalHas yX12_rivalHas ∈ gw := pv_mem (y := yX12_rivalHas) (n := 34) 112 (by decide +kernel) (by decide +kernel)
abbrev mX12_rests : MT := (RX12, cX12_rests, 5, (some .int), "rests", [])
theorem cwX12_rests {M : MT} {i : Nat} : callW M i yX12_rests mX12_rests 1 := ⟨tm9 38 (by decide +kernel) (by decide +kernel), tm1 13 (by decide +kernel) (by decide +kernel), ⟨(by decide +kernel), (by decide +kernel)⟩, (by decide +kernel), by decide⟩
theorem imX12_rests : Cond.instanceMethod yX12_rests ∈ gw := tm9 36 (by decide +kernel) (by decide +kernel)
theorem seX12_rests : Cond.selects RX12 yX12_rests yX12_rests ∈ gw := tm9 37 (by decide +kernel) (by decide +kernel)
abbrev mX12_odds : MT := (RX12, cX12_odds, 5, (some .int), "odds", [])
theorem cwX12_odds {M : MT} {i : Nat} : callW M i yX12_odds mX12_odds 1 := ⟨tm9 50 (by decide +kernel) (by decide +kernel), tm1 13 (by decide +kernel) (by decide +kernel), ⟨(by decide +kernel), (by decide +kernel)⟩, (by decide +kernel), by decide⟩
theorem imX12_odds : Cond.instanceMethod yX12_odds ∈ gw := tm9 48 (by decide +kernel) (by decide +kernel)
theorem seX12_odds : Cond.selects RX12 yX12_odds yX12_odds ∈ gw := tm9 49 (by decide +kernel) (by decide +kernel)
abbrev mX12_amountOf : MT := (RX12, cX12_amountOf, 3, (some .int), "amountOf", [])
theorem cwX12_amountOf {M : MT} {i : Nat} : callW M i yX12_amountOf mX12_amountOf 2 := ⟨tm9 58 (by decide +kernel) (by decide +kernel), tm1 13 (by decide +kernel) (by decide +kernel), ⟨(by decide +kernel), (by decide +kernel)⟩, (by decide +kernel), by decide⟩
theorem imX12_amountOf : Cond.instanceMethod yX12_amountOf ∈ gw := tm9 57 (by decide +kernel) (by decide +kernel)
theorem seX12_amountOf : Cond.selects RX12 yX12_amountOf yX12_amountOf ∈ gw := pv_mem (y := yX12_amountOf) (n := 34) 113 (by decide +kernel) (by decide +kernel)
abbrev mX12_most : MT := (RX12, cX12_most, 4, (some .int), "most", [])
theorem cwX12_most {M : MT} {i : Nat} : callW M i yX12_most mX12_most 1 := ⟨tm9 54 (by decide +kernel) (by decide +kernel), tm1 13 (by decide +kernel) (by decide +kernel), ⟨(by decide +kernel), (by decide +kernel)⟩, (by decide +kernel), by decide⟩
theorem imX12_most : Cond.instanceMethod yX12_most ∈ gw := tm9 52 (by decide +kernel) (by decide +kernel)
theorem seX12_most : Cond.selects RX12 yX12_most yX12_most ∈ gw := tm9 53 (by decide +kernel) (by decide +kernel)
abbrev mX12_which : MT := (RX12, cX12_which, 2, (some .int), "which", [])
theorem cwX12_which {M : MT} {i : Nat} : callW M i yX12_which mX12_which 1 := ⟨tm9 62 (by decide +kernel) (by decide +kernel), tm1 13 (by decide +kernel) (by decide +kernel), ⟨(by decide +kernel), (by decide +kernel)⟩, (by decide +kernel), by decide⟩
theorem imX12_which : Cond.instanceMethod yX12_which ∈ gw := tm9 60 (by decide +kernel) (by decide +kernel)
theorem seX12_which : Cond.selects RX12 yX12_which yX12_which ∈ gw := tm9 61 (by decide +kernel) (by decide +kernel)
abbrev mX12_twins : MT := (RX12, cX12_twins, 4, (some .int), "twins", [])
theorem cwX12_twins {M : MT} {i : Nat} : callW M i yX12_twins mX12_twins 0 := ⟨tm9 66 (by decide +kernel) (by decide +kernel), tm1 13 (by decide +kernel) (by decide +kernel), ⟨(by decide +kernel), (by decide +kernel)⟩, (by decide +kernel), by decide⟩
theorem imX12_twins : Cond.instanceMethod yX12_twins ∈ gw := tm9 64 (by decide +kernel) (by decide +kernel)
theorem seX12_twins : Cond.selects RX12 yX12_twins yX12_twins ∈ gw := tm9 65 (by decide +kernel) (by decide +kernel)
abbrev mX12_noHours : MT := (RX12, cX12_noHours, 1, (some .boolean), "noHours", [])
theorem cwX12_noHours {M : MT} {i : Nat} : callW M i yX12_noHours mX12_noHours 1 := ⟨tm9 73 (by decide +kernel) (by decide +kernel), tm1 13 (by decide +kernel) (by decide +kernel), ⟨(by decide +kernel), (by decide +kernel)⟩, (by decide +kernel), by decide⟩
theorem stX12_noHours : Cond.static yX12_noHours ∈ gw := tm9 72 (by decide +kernel) (by decide +kernel)
abbrev mX12_trial : MT := (RX12, cX12_trial, 4, (some .int), "trial", [])
theorem cwX12_trial {M : MT} {i : Nat} : callW M i yX12_trial mX12_trial 2 := ⟨tm9 70 (by decide +kernel) (by decide +kernel), tm1 13 (by decide +kernel) (by decide +kernel), ⟨(by decide +kernel), (by decide +kernel)⟩, (by decide +kernel), by decide⟩
theorem imX12_trial : Cond.instanceMethod yX12_trial ∈ gw := tm9 68 (by decide +kernel) (by decide +kernel)
theorem seX12_trial : Cond.selects RX12 yX12_trial yX12_trial ∈ gw := tm9 69 (by decide +kernel) (by decide +kernel)
abbrev mX12_span : MT := (RX12, cX12_span, 6, (some .int), "span", [])
theorem cwX12_span {M : MT} {i : Nat} : callW M i yX12_span mX12_span 2 := ⟨tm9 85 (by decide +kernel) (by decide +kernel), tm1 13 (by decide +kernel) (by decide +kernel), ⟨(by decide +kernel), (by decide +kernel)⟩, (by decide +kernel), by decide⟩
theorem imX12_span : Cond.instanceMethod yX12_span ∈ gw := tm9 83 (by decide +kernel) (by decide +kernel)
theorem seX12_span : Cond.selects RX12 yX12_span yX12_span ∈ gw := tm9 84 (by decide +kernel) (by decide +kernel)
abbrev mX12_ofLog : MT := (RX12, cX12_ofLog, 3, (some .int), "ofLog", [])
theorem cwX12_ofLog {M : MT} {i : Nat} : callW M i yX12_ofLog mX12_ofLog 2 := ⟨tm9 93 (by decide +kernel) (by decide +kernel), tm1 13 (by decide +kernel) (by decide +kernel), ⟨(by decide +kernel), (by decide +kernel)⟩, (by decide +kernel), by decide⟩
theorem imX12_ofLog : Cond.instanceMethod yX12_ofLog ∈ gw := tm9 92 (by decide +kernel) (by decide +kernel)
theorem seX12_ofLog : Cond.selects RX12 yX12_ofLog yX12_ofLog ∈ gw := pv_mem (y := yX12_ofLog) (n := 34) 116 (by decide +kernel) (by decide +kernel)
abbrev mX12_led : MT := (RX12, cX12_led, 6, (some .int), "led", [])
theorem cwX12_led {M : MT} {i : Nat} : callW M i yX12_led mX12_led 2 := ⟨tm9 89 (by decide +kernel) (by decide +kernel), tm1 13 (by decide +kernel) (by decide +kernel), ⟨(by decide +kernel), (by decide +kernel)⟩, (by decide +kernel), by decide⟩
theorem imX12_led : Cond.instanceMethod yX12_led ∈ gw := tm9 87 (by decide +kernel) (by decide +kernel)
theorem seX12_led : Cond.selects RX12 yX12_led yX12_led ∈ gw := tm9 88 (by decide +kernel) (by decide +kernel)
abbrev mX12_log : MT := (RX12, cX12_log, 3, (some .int), "log", [])
theorem cwX12_log {M : MT} {i : Nat} : callW M i yX12_log mX12_log 2 := ⟨tm9 97 (by decide +kernel) (by decide +kernel), tm1 13 (by decide +kernel) (by decide +kernel), ⟨(by decide +kernel), (by decide +kernel)⟩, (by decide +kernel), by decide⟩
theorem imX12_log : Cond.instanceMethod yX12_log ∈ gw := tm9 95 (by decide +kernel) (by decide +kernel)
theorem seX12_log : Cond.selects RX12 yX12_log yX12_log ∈ gw := tm9 96 (by decide +kernel) (by decide +kernel)
abbrev mX12_seed : MT := (RX12, cX12_seed, 3, (some .int), "seed", [])
theorem cwX12_seed {M : MT} {i : Nat} : callW M i yX12_seed mX12_seed 1 := ⟨tm9 101 (by decide +kernel) (by decide +kernel), tm1 13 (by decide +kernel) (by decide +kernel), ⟨(by decide +kernel), (by decide +kernel)⟩, (by decide +kernel), by decide⟩
theorem imX12_seed : Cond.instanceMethod yX12_seed ∈ gw := tm9 99 (by decide +kernel) (by decide +kernel)
theorem seX12_seed : Cond.selects RX12 yX12_seed yX12_seed ∈ gw := tm9 100 (by decide +kernel) (by decide +kernel)
abbrev mX12_sumOfAll : MT := (RX12, cX12_sumOfAll, 4, (some .int), "sumOfAll", [])
theorem cwX12_sumOfAll {M : MT} {i : Nat} : callW M i yX12_sumOfAll mX12_sumOfAll 1 := ⟨tm9 109 (by decide +kernel) (by decide +kernel), tm1 13 (by decide +kernel) (by decide +kernel), ⟨(by decide +kernel), (by decide +kernel)⟩, (by decide +kernel), by decide⟩
theorem imX12_sumOfAll : Cond.instanceMethod yX12_sumOfAll ∈ gw := tm9 108 (by decide +kernel) (by decide +kernel)
theorem seX12_sumOfAll : Cond.selects RX12 yX12_sumOfAll yX12_sumOfAll ∈ gw := pv_mem (y := yX12_sumOfAll) (n := 34) 117 (by decide +kernel) (by decide +kernel)
abbrev mX12_count : MT := (RX12, cX12_count, 2, (some .int), "count", [])
theorem cwX12_count {M : MT} {i : Nat} : callW M i yX12_count mX12_count 1 := ⟨tm9 105 (by decide +kernel) (by decide +kernel), tm1 13 (by decide +kernel) (by decide +kernel), ⟨(by decide +kernel), (by decide +kernel)⟩, (by decide +kernel), by decide⟩
theorem imX12_count : Cond.instanceMethod yX12_count ∈ gw := tm9 103 (by decide +kernel) (by decide +kernel)
theorem seX12_count : Cond.selects RX12 yX12_count yX12_count ∈ gw := tm9 104 (by decide +kernel) (by decide +kernel)
abbrev mJ6_numberOfTrailingZeros_0f7a4 : MT := (RJ6, cJ6_numberOfTrailingZeros_0f7a4, 2, (some .int), "numberOfTrailingZeros", [])
theorem cwJ6_numberOfTrailingZeros_0f7a4 {M : MT} {i : Nat} : callW M i yJ6_numberOfTrailingZeros_0f7a4 mJ6_numberOfTrailingZeros_0f7a4 1 := ⟨tm8 171 (by decide +kernel) (by decide +kernel), tm1 27 (by decide +kernel) (by decide +kernel), ⟨(by decide +kernel), (by decide +kernel)⟩, (by decide +kernel), by decide⟩
theorem stJ6_numberOfTrailingZeros_0f7a4 : Cond.static yJ6_numberOfTrailingZeros_0f7a4 ∈ gw := tm8 170 (by decide +kernel) (by decide +kernel)
abbrev mJ6_bitCount_0f7a4 : MT := (RJ6, cJ6_bitCount_0f7a4, 1, (some .int), "bitCount", [])
theorem cwJ6_bitCount_0f7a4 {M : MT} {i : Nat} : callW M i yJ6_bitCount_0f7a4 mJ6_bitCount_0f7a4 1 := ⟨tm2 234 (by decide +kernel) (by decide +kernel), tm1 27 (by decide +kernel) (by decide +kernel), ⟨(by decide +kernel), (by decide +kernel)⟩, (by decide +kernel), by decide⟩
theorem stJ6_bitCount_0f7a4 : Cond.static yJ6_bitCount_0f7a4 ∈ gw := tm2 233 (by decide +kernel) (by decide +kernel)
abbrev mJ9_max_7cf53 : MT := (RJ9, cJ9_max_7cf53, 2, (some .int), "max", [])
theorem cwJ9_max_7cf53 {M : MT} {i : Nat} : callW M i yJ9_max_7cf53 mJ9_max_7cf53 2 := ⟨tm3 18 (by decide +kernel) (by decide +kernel), tm1 26 (by decide +kernel) (by decide +kernel), ⟨(by decide +kernel), (by decide +kernel)⟩, (by decide +kernel), by decide⟩
theorem stJ9_max_7cf53 : Cond.static yJ9_max_7cf53 ∈ gw := tm3 17 (by decide +kernel) (by decide +kernel)
abbrev mJ9_min_7cf53 : MT := (RJ9, cJ9_min_7cf53, 2, (some .int), "min", [])
theorem cwJ9_min_7cf53 {M : MT} {i : Nat} : callW M i yJ9_min_7cf53 mJ9_min_7cf53 2 := ⟨tm2 222 (by decide +kernel) (by decide +kernel), tm1 26 (by decide +kernel) (by decide +kernel), ⟨(by decide +kernel), (by decide +kernel)⟩, (by decide +kernel), by decide⟩
theorem stJ9_min_7cf53 : Cond.static yJ9_min_7cf53 ∈ gw := tm2 221 (by decide +kernel) (by decide +kernel)
abbrev mJ0_length_8abf5 : MT := (RJ0, cJ0_length_8abf5, 1, (some .int), "length", [])
theorem cwJ0_length_8abf5 {M : MT} {i : Nat} : callW M i yJ0_length_8abf5 mJ0_length_8abf5 0 := ⟨tm3 135 (by decide +kernel) (by decide +kernel), tm1 14 (by decide +kernel) (by decide +kernel), ⟨(by decide +kernel), (by decide +kernel)⟩, (by decide +kernel), by decide⟩
theorem imJ0_length_8abf5 : Cond.instanceMethod yJ0_length_8abf5 ∈ gw := tm3 133 (by decide +kernel) (by decide +kernel)
theorem seJ0_length_8abf5 : Cond.selects RJ0 yJ0_length_8abf5 yJ0_length_8abf5 ∈ gw := tm3 134 (by decide +kernel) (by decide +kernel)
abbrev mJ0_charAt_5068e : MT := (RJ0, cJ0_charAt_5068e, 2, (some .char), "charAt", [])
theorem cwJ0_charAt_5068e {M : MT} {i : Nat} : callW M i yJ0_charAt_5068e mJ0_charAt_5068e 1 := ⟨tm3 145 (by decide +kernel) (by decide +kernel), tm1 14 (by decide +kernel) (by decide +kernel), ⟨(by decide +kernel), (by decide +kernel)⟩, (by decide +kernel), by decide⟩
theorem imJ0_charAt_5068e : Cond.instanceMethod yJ0_charAt_5068e ∈ gw := tm3 143 (by decide +kernel) (by decide +kernel)
theorem seJ0_charAt_5068e : Cond.selects RJ0 yJ0_charAt_5068e yJ0_charAt_5068e ∈ gw := tm3 144 (by decide +kernel) (by decide +kernel)
abbrev mJ0_coder_7d493 : MT := (RJ0, cJ0_coder_7d493, 1, (some .byte), "coder", [])
theorem cwJ0_coder_7d493 {M : MT} {i : Nat} : callW M i yJ0_coder_7d493 mJ0_coder_7d493 0 := ⟨tm3 139 (by decide +kernel) (by decide +kernel), tm1 14 (by decide +kernel) (by decide +kernel), ⟨(by decide +kernel), (by decide +kernel)⟩, (by decide +kernel), by decide⟩
theorem imJ0_coder_7d493 : Cond.instanceMethod yJ0_coder_7d493 ∈ gw := tm3 137 (by decide +kernel) (by decide +kernel)
theorem seJ0_coder_7d493 : Cond.selects RJ0 yJ0_coder_7d493 yJ0_coder_7d493 ∈ gw := tm3 138 (by decide +kernel) (by decide +kernel)
abbrev mJ0_isLatin1_aae02 : MT := (RJ0, cJ0_isLatin1_aae02, 1, (some .boolean), "isLatin1", [])
theorem cwJ0_isLatin1_aae02 {M : MT} {i : Nat} : callW M i yJ0_isLatin1_aae02 mJ0_isLatin1_aae02 0 := ⟨tm3 149 (by decide +kernel) (by decide +kernel), tm1 14 (by decide +kernel) (by decide +kernel), ⟨(by decide +kernel), (by decide +kernel)⟩, (by decide +kernel), by decide⟩
theorem imJ0_isLatin1_aae02 : Cond.instanceMethod yJ0_isLatin1_aae02 ∈ gw := tm3 147 (by decide +kernel) (by decide +kernel)
theorem seJ0_isLatin1_aae02 : Cond.selects RJ0 yJ0_isLatin1_aae02 yJ0_isLatin1_aae02 ∈ gw := tm3 148 (by decide +kernel) (by decide +kernel)
abbrev mJ0_checkIndex_df160 : MT := (RJ0, cJ0_checkIndex_df160, 2, none, "checkIndex", [])
theorem cwJ0_checkIndex_df160 {M : MT} {i : Nat} : callW M i yJ0_checkIndex_df160 mJ0_checkIndex_df160 2 := ⟨tm3 155 (by decide +kernel) (by decide +kernel), tm1 14 (by decide +kernel) (by decide +kernel), ⟨(by decide +kernel), (by decide +kernel)⟩, (by decide +kernel), by decide⟩
theorem stJ0_checkIndex_df160 : Cond.static yJ0_checkIndex_df160 ∈ gw := tm3 154 (by decide +kernel) (by decide +kernel)
abbrev mJ1_charAt_3b067 : MT := (RJ1, cJ1_charAt_3b067, 2, (some .char), "charAt", [])
theorem cwJ1_charAt_3b067 {M : MT} {i : Nat} : callW M i yJ1_charAt_3b067 mJ1_charAt_3b067 2 := ⟨tm3 152 (by decide +kernel) (by decide +kernel), tm1 15 (by decide +kernel) (by decide +kernel), ⟨(by decide +kernel), (by decide +kernel)⟩, (by decide +kernel), by decide⟩
theorem stJ1_charAt_3b067 : Cond.static yJ1_charAt_3b067 ∈ gw := tm3 151 (by decide +kernel) (by decide +kernel)
abbrev mJ2_getChar_3b067 : MT := (RJ2, cJ2_getChar_3b067, 2, (some .char), "getChar", [])
theorem cwJ2_getChar_3b067 {M : MT} {i : Nat} : callW M i yJ2_getChar_3b067 mJ2_getChar_3b067 2 := ⟨tm3 173 (by decide +kernel) (by decide +kernel), tm1 17 (by decide +kernel) (by decide +kernel), ⟨(by decide +kernel), (by decide +kernel)⟩, (by decide +kernel), by decide⟩
theorem stJ2_getChar_3b067 : Cond.static yJ2_getChar_3b067 ∈ gw := tm3 172 (by decide +kernel) (by decide +kernel)
abbrev mJ2_length_9d52b : MT := (RJ2, cJ2_length_9d52b, 1, (some .int), "length", [])
theorem cwJ2_length_9d52b {M : MT} {i : Nat} : callW M i yJ2_length_9d52b mJ2_length_9d52b 1 := ⟨tm3 169 (by decide +kernel) (by decide +kernel), tm1 17 (by decide +kernel) (by decide +kernel), ⟨(by decide +kernel), (by decide +kernel)⟩, (by decide +kernel), by decide⟩
theorem stJ2_length_9d52b : Cond.static yJ2_length_9d52b ∈ gw := tm3 168 (by decide +kernel) (by decide +kernel)
abbrev mJ2_charAt_3b067 : MT := (RJ2, cJ2_charAt_3b067, 2, (some .char), "charAt", [])
theorem cwJ2_charAt_3b067 {M : MT} {i : Nat} : callW M i yJ2_charAt_3b067 mJ2_charAt_3b067 2 := ⟨tm3 163 (by decide +kernel) (by decide +kernel), tm1 17 (by decide +kernel) (by decide +kernel), ⟨(by decide +kernel), (by decide +kernel)⟩, (by decide +kernel), by decide⟩
theorem stJ2_charAt_3b067 : Cond.static yJ2_charAt_3b067 ∈ gw := tm3 162 (by decide +kernel) (by decide +kernel)
abbrev mJ2_checkIndex_2214a : MT := (RJ2, cJ2_checkIndex_2214a, 2, none, "checkIndex", [])
theorem cwJ2_checkIndex_2214a {M : MT} {i : Nat} : callW M i yJ2_checkIndex_2214a mJ2_checkIndex_2214a 2 := ⟨tm3 166 (by decide +kernel) (by decide +kernel), tm1 17 (by decide +kernel) (by decide +kernel), ⟨(by decide +kernel), (by decide +kernel)⟩, (by decide +kernel), by decide⟩
theorem stJ2_checkIndex_2214a : Cond.static yJ2_checkIndex_2214a ∈ gw := tm3 165 (by decide +kernel) (by decide +kernel)
abbrev mJ3_checkIndex_8e157 : MT := (RJ3, cJ3_checkIndex_8e157, 3, (some .int), "checkIndex", [])
theorem cwJ3_checkIndex_8e157 {M : MT} {i : Nat} : callW M i yJ3_checkIndex_8e157 mJ3_checkIndex_8e157 3 := ⟨tm3 160 (by decide +kernel) (by decide +kernel), tm1 16 (by decide +kernel) (by decide +kernel), ⟨(by decide +kernel), (by decide +kernel)⟩, (by decide +kernel), by decide⟩
theorem stJ3_checkIndex_8e157 : Cond.static yJ3_checkIndex_8e157 ∈ gw := tm3 159 (by decide +kernel) (by decide +kernel)
theorem mlX11_9 : Cond.methodLink RX11 9 yX9_init ∈ gw := tm1 40 (by decide +kernel) (by decide +kernel)
theorem mlX11_18 : Cond.methodLink RX11 18 yX10_init ∈ gw := tm1 56 (by decide +kernel) (by decide +kernel)
theorem mlX11_25 : Cond.methodLink RX11 25 yX2_init ∈ gw := tm1 93 (by decide +kernel) (by decide +kernel)
theorem mlX11_38 : Cond.methodLink RX11 38 yX4_init ∈ gw := tm1 183 (by decide +kernel) (by decide +kernel)
theorem mlX11_55 : Cond.methodLink RX11 55 yX7_init ∈ gw := tm1 220 (by decide +kernel) (by decide +kernel)
theorem mlX11_64 : Cond.methodLink RX11 64 yX1_init ∈ gw := tm2 38 (by decide +kernel) (by decide +kernel)
theorem mlX11_73 : Cond.methodLink RX11 73 yX5_init ∈ gw := tm2 48 (by decide +kernel) (by decide +kernel)
theorem mlX11_80 : Cond.methodLink RX11 80 yX6_init ∈ gw := tm2 85 (by decide +kernel) (by decide +kernel)
theorem mlX11_106 : Cond.methodLink RX11 106 yX9_push ∈ gw := tm2 160 (by decide +kernel) (by decide +kernel)
theorem mlX11_110 : Cond.methodLink RX11 110 yX11_scanTape ∈ gw := tm3 92 (by decide +kernel) (by decide +kernel)
theorem mlX11_113 : Cond.methodLink RX11 113 yX2_copy ∈ gw := tm3 55 (by decide +kernel) (by decide +kernel)
theorem mlX11_117 : Cond.methodLink RX11 117 yX3_readText ∈ gw := tm3 192 (by decide +kernel) (by decide +kernel)
theorem mlX11_141 : Cond.methodLink RX11 141 yX4_readText ∈ gw := tm4 91 (by decide +kernel) (by decide +kernel)
theorem mlX11_146 : Cond.methodLink RX11 146 yX4_copy ∈ gw := tm3 66 (by decide +kernel) (by decide +kernel)
theorem mlX11_154 : Cond.methodLink RX11 154 yX9_takeUp ∈ gw := tm3 96 (by decide +kernel) (by decide +kernel)
theorem mlX11_158 : Cond.methodLink RX11 158 yX10_scan ∈ gw := tm3 100 (by decide +kernel) (by decide +kernel)
theorem mlX11_162 : Cond.methodLink RX11 162 yX11_needPerson ∈ gw := tm4 161 (by decide +kernel) (by decide +kernel)
theorem mlX11_168 : Cond.methodLink RX11 168 yX11_cell ∈ gw := tm2 194 (by decide +kernel) (by decide +kernel)
theorem mlX11_184 : Cond.methodLink RX11 184 yX11_worstPlace ∈ gw := tm4 185 (by decide +kernel) (by decide +kernel)
theorem mlX11_188 : Cond.methodLink RX11 188 yX11_bestPlace ∈ gw := tm4 189 (by decide +kernel) (by decide +kernel)
theorem mlX11_191 : Cond.methodLink RX11 191 yX7_weight ∈ gw := tm2 203 (by decide +kernel) (by decide +kernel)
theorem mlX11_195 : Cond.methodLink RX11 195 yX2_hoursNeed ∈ gw := tm4 193 (by decide +kernel) (by decide +kernel)
theorem mlX11_198 : Cond.methodLink RX11 198 yX11_goingOf ∈ gw := tm4 198 (by decide +kernel) (by decide +kernel)
theorem mlX11_201 : Cond.methodLink RX11 201 yX11_shareOf ∈ gw := tm4 202 (by decide +kernel) (by decide +kernel)
theorem mlX11_209 : Cond.methodLink RX11 209 yX2_wordAt ∈ gw := tm4 229 (by decide +kernel) (by decide +kernel)
theorem mlX11_215 : Cond.methodLink RX11 215 yX11_toldOf ∈ gw := tm4 238 (by decide +kernel) (by decide +kernel)
theorem mlX11_219 : Cond.methodLink RX11 219 yX2_heldCount ∈ gw := tm2 199 (by decide +kernel) (by decide +kernel)
theorem mlX11_222 : Cond.methodLink RX11 222 yX11_needDistance ∈ gw := tm5 17 (by decide +kernel) (by decide +kernel)
theorem mlX11_228 : Cond.methodLink RX11 228 yX2_has ∈ gw := tm4 165 (by decide +kernel) (by decide +kernel)
theorem mlX11_256 : Cond.methodLink RX11 256 yX2_alikeFirst ∈ gw := tm3 34 (by decide +kernel) (by decide +kernel)
theorem mlX11_259 : Cond.methodLink RX11 259 yX11_heldWeight ∈ gw := tm2 195 (by decide +kernel) (by decide +kernel)
theorem mlX11_262 : Cond.methodLink RX11 262 yX11_needNumber ∈ gw := tm5 28 (by decide +kernel) (by decide +kernel)
theorem mlX11_266 : Cond.methodLink RX11 266 yX11_rememberAct ∈ gw := tm5 32 (by decide +kernel) (by decide +kernel)
theorem mlX11_269 : Cond.methodLink RX11 269 yX1_passHours ∈ gw := tm5 36 (by decide +kernel) (by decide +kernel)
theorem mlX11_273 : Cond.methodLink RX11 273 yX11_needState ∈ gw := tm5 79 (by decide +kernel) (by decide +kernel)
theorem mlX11_277 : Cond.methodLink RX11 277 yX2_settle ∈ gw := tm5 99 (by decide +kernel) (by decide +kernel)
theorem mlX11_280 : Cond.methodLink RX11 280 yX1_breakIn ∈ gw := tm5 107 (by decide +kernel) (by decide +kernel)
theorem mlX11_283 : Cond.methodLink RX11 283 yX1_letFinish ∈ gw := tm5 115 (by decide +kernel) (by decide +kernel)
theorem mlX11_286 : Cond.methodLink RX11 286 yX2_note ∈ gw := tm5 123 (by decide +kernel) (by decide +kernel)
theorem mlX11_290 : Cond.methodLink RX11 290 yX11_put ∈ gw := tm3 20 (by decide +kernel) (by decide +kernel)
theorem mlX11_297 : Cond.methodLink RX11 297 yX11_needTwo ∈ gw := tm5 152 (by decide +kernel) (by decide +kernel)
theorem mlX11_300 : Cond.methodLink RX11 300 yX2_copyOath ∈ gw := tm5 156 (by decide +kernel) (by decide +kernel)
theorem mlX11_303 : Cond.methodLink RX11 303 yX11_actAt ∈ gw := tm3 51 (by decide +kernel) (by decide +kernel)
theorem mlX11_307 : Cond.methodLink RX11 307 yX5_find ∈ gw := tm5 167 (by decide +kernel) (by decide +kernel)
theorem mlX11_320 : Cond.methodLink RX11 320 yX2_oddsBehind ∈ gw := tm5 200 (by decide +kernel) (by decide +kernel)
theorem mlX11_323 : Cond.methodLink RX11 323 yX11_areAtOdds ∈ gw := tm2 190 (by decide +kernel) (by decide +kernel)
theorem mlX11_327 : Cond.methodLink RX11 327 yX2_bitsOf ∈ gw := tm2 179 (by decide +kernel) (by decide +kernel)
theorem mlX11_330 : Cond.methodLink RX11 330 yX11_fillAgainst ∈ gw := tm2 186 (by decide +kernel) (by decide +kernel)
theorem mlX11_333 : Cond.methodLink RX11 333 yJ6_bitCount_0f7a4 ∈ gw := tm3 21 (by decide +kernel) (by decide +kernel)
theorem mlX11_338 : Cond.methodLink RX11 338 yX11_isPeaceful ∈ gw := tm3 22 (by decide +kernel) (by decide +kernel)
theorem mlX11_341 : Cond.methodLink RX11 341 yX11_takeHeardRows ∈ gw := tm5 218 (by decide +kernel) (by decide +kernel)
theorem mlX11_344 : Cond.methodLink RX11 344 yX11_fittingBits ∈ gw := tm5 223 (by decide +kernel) (by decide +kernel)
theorem mlX11_347 : Cond.methodLink RX11 347 yX11_wrongRows ∈ gw := tm5 227 (by decide +kernel) (by decide +kernel)
theorem mlX11_350 : Cond.methodLink RX11 350 yX11_greatestPart ∈ gw := tm6 6 (by decide +kernel) (by decide +kernel)
theorem mlX11_353 : Cond.methodLink RX11 353 yX11_takeCoughs ∈ gw := tm6 18 (by decide +kernel) (by decide +kernel)
theorem mlX11_356 : Cond.methodLink RX11 356 yX11_bestCough ∈ gw := tm6 23 (by decide +kernel) (by decide +kernel)
theorem mlX11_361 : Cond.methodLink RX11 361 yX2_kindAt ∈ gw := tm5 231 (by decide +kernel) (by decide +kernel)
theorem mlX11_364 : Cond.methodLink RX11 364 yJ9_max_7cf53 ∈ gw := tm6 10 (by decide +kernel) (by decide +kernel)
theorem mlX11_371 : Cond.methodLink RX11 371 yX11_leastBit ∈ gw := tm6 26 (by decide +kernel) (by decide +kernel)
theorem mlX11_374 : Cond.methodLink RX11 374 yX6_find ∈ gw := tm6 43 (by decide +kernel) (by decide +kernel)
theorem mlX11_381 : Cond.methodLink RX11 381 yX11_oneOf ∈ gw := tm6 67 (by decide +kernel) (by decide +kernel)
theorem mlX11_408 : Cond.methodLink RX11 408 yX11_sumOf ∈ gw := tm3 79 (by decide +kernel) (by decide +kernel)
theorem mlX0_30 : Cond.methodLink RX0 30 yJ9_min_7cf53 ∈ gw := tm2 220 (by decide +kernel) (by decide +kernel)
theorem mlX0_36 : Cond.methodLink RX0 36 yJ6_bitCount_0f7a4 ∈ gw := tm3 15 (by decide +kernel) (by decide +kernel)
theorem mlX0_42 : Cond.methodLink RX0 42 yJ9_max_7cf53 ∈ gw := tm3 16 (by decide +kernel) (by decide +kernel)
theorem mlX1_25 : Cond.methodLinkNest RX1 25 yX11_cell "HalfOaths" ∈ nw := tn5 40 (by decide +kernel) (by decide +kernel)
theorem mlX1_29 : Cond.methodLink RX1 29 yX1_speakOn ∈ gw := tm5 41 (by decide +kernel) (by decide +kernel)
theorem mlX1_36 : Cond.methodLink RX1 36 yJ9_min_7cf53 ∈ gw := tm5 70 (by decide +kernel) (by decide +kernel)
theorem mlX1_42 : Cond.methodLink RX1 42 yX2_draw ∈ gw := tm5 45 (by decide +kernel) (by decide +kernel)
theorem mlX1_52 : Cond.methodLink RX1 52 yX1_breakIn ∈ gw := tm5 50 (by decide +kernel) (by decide +kernel)
theorem mlX1_65 : Cond.methodLink RX1 65 yX1_letFinish ∈ gw := tm5 65 (by decide +kernel) (by decide +kernel)
theorem mlX1_69 : Cond.methodLinkNest RX1 69 yX11_put "HalfOaths" ∈ nw := tn5 69 (by decide +kernel) (by decide +kernel)
theorem mlX1_81 : Cond.methodLink RX1 81 yX7_weight ∈ gw := tm5 54 (by decide +kernel) (by decide +kernel)
theorem mlX1_84 : Cond.methodLink RX1 84 yX2_note ∈ gw := tm5 55 (by decide +kernel) (by decide +kernel)
theorem mlX1_88 : Cond.methodLink RX1 88 yX1_countBehind ∈ gw := tm5 59 (by decide +kernel) (by decide +kernel)
theorem mlX1_92 : Cond.methodLink RX1 92 yX2_settle ∈ gw := tm5 64 (by decide +kernel) (by decide +kernel)
theorem mlX1_96 : Cond.methodLink RX1 96 yJ9_max_7cf53 ∈ gw := tm5 62 (by decide +kernel) (by decide +kernel)
theorem mlX1_99 : Cond.methodLink RX1 99 yX2_bitsOf ∈ gw := tm5 63 (by decide +kernel) (by decide +kernel)
theorem mlX2_64 : Cond.methodLinkNest RX2 64 yX11_cell "HalfOaths" ∈ nw := tn2 183 (by decide +kernel) (by decide +kernel)
theorem mlX2_68 : Cond.methodLink RX2 68 yX2_wordAt ∈ gw := tm3 39 (by decide +kernel) (by decide +kernel)
theorem mlX2_72 : Cond.methodLink RX2 72 yJ9_min_7cf53 ∈ gw := tm3 38 (by decide +kernel) (by decide +kernel)
theorem mlX2_77 : Cond.methodLinkNest RX2 77 yX11_put "HalfOaths" ∈ nw := tn3 217 (by decide +kernel) (by decide +kernel)
theorem mlX2_81 : Cond.methodLink RX2 81 yJ9_max_7cf53 ∈ gw := tm4 197 (by decide +kernel) (by decide +kernel)
theorem mlX3_20 : Cond.methodLink RX3 20 yX3_readLine ∈ gw := tm3 196 (by decide +kernel) (by decide +kernel)
theorem mlX3_29 : Cond.methodLink RX3 29 yX10_step ∈ gw := tm3 204 (by decide +kernel) (by decide +kernel)
theorem mlX3_35 : Cond.methodLink RX3 35 yX3_readOath ∈ gw := tm3 201 (by decide +kernel) (by decide +kernel)
theorem mlX3_41 : Cond.methodLink RX3 41 yX3_readMode ∈ gw := tm3 227 (by decide +kernel) (by decide +kernel)
theorem mlX3_53 : Cond.methodLink RX3 53 yX10_tells ∈ gw := tm3 208 (by decide +kernel) (by decide +kernel)
theorem mlX3_76 : Cond.methodLinkNest RX3 76 yX11_put "HalfOaths" ∈ nw := tn3 212 (by decide +kernel) (by decide +kernel)
theorem mlX3_83 : Cond.methodLink RX3 83 yX3_readWords ∈ gw := tm3 205 (by decide +kernel) (by decide +kernel)
theorem mlX3_93 : Cond.methodLink RX3 93 yX2_settle ∈ gw := tm3 213 (by decide +kernel) (by decide +kernel)
theorem mlX3_100 : Cond.methodLink RX3 100 yX3_readExtra ∈ gw := tm3 220 (by decide +kernel) (by decide +kernel)
theorem mlX4_55 : Cond.methodLink RX4 55 yX4_lineStep ∈ gw := tm4 96 (by decide +kernel) (by decide +kernel)
theorem mlX4_59 : Cond.methodLink RX4 59 yX10_step ∈ gw := tm4 105 (by decide +kernel) (by decide +kernel)
theorem mlX4_62 : Cond.methodLink RX4 62 yX10_tells ∈ gw := tm4 106 (by decide +kernel) (by decide +kernel)
theorem mlX4_72 : Cond.methodLink RX4 72 yX4_emit ∈ gw := tm4 109 (by decide +kernel) (by decide +kernel)
theorem mlX4_76 : Cond.methodLink RX4 76 yX4_readAny ∈ gw := tm4 113 (by decide +kernel) (by decide +kernel)
theorem mlX4_92 : Cond.methodLink RX4 92 yX4_readAll ∈ gw := tm4 116 (by decide +kernel) (by decide +kernel)
theorem mlX4_98 : Cond.methodLink RX4 98 yX4_readAtom ∈ gw := tm4 119 (by decide +kernel) (by decide +kernel)
theorem mlX4_113 : Cond.methodLink RX4 113 yX8_isFlag ∈ gw := tm4 128 (by decide +kernel) (by decide +kernel)
theorem mlX4_120 : Cond.methodLink RX4 120 yX4_readComparison ∈ gw := tm4 132 (by decide +kernel) (by decide +kernel)
theorem mlX4_124 : Cond.methodLink RX4 124 yX4_emitPart ∈ gw := tm4 135 (by decide +kernel) (by decide +kernel)
theorem mlX4_140 : Cond.methodLinkNest RX4 140 yX11_cell "HalfOaths" ∈ nw := tn3 2 (by decide +kernel) (by decide +kernel)
theorem mlX4_144 : Cond.methodLinkNest RX4 144 yX11_put "HalfOaths" ∈ nw := tn3 3 (by decide +kernel) (by decide +kernel)
theorem mlX4_148 : Cond.methodLink RX4 148 yX4_join ∈ gw := tm3 4 (by decide +kernel) (by decide +kernel)
theorem mlX4_152 : Cond.methodLink RX4 152 yX4_addLine ∈ gw := tm3 7 (by decide +kernel) (by decide +kernel)
theorem mlX5_41 : Cond.methodLink RX5 41 yX5_partUnits ∈ gw := tm5 171 (by decide +kernel) (by decide +kernel)
theorem mlX5_45 : Cond.methodLink RX5 45 yX5_placeFrom ∈ gw := tm5 181 (by decide +kernel) (by decide +kernel)
theorem mlX5_54 : Cond.methodLinkNest RX5 54 yX11_cell "HalfOaths" ∈ nw := tn5 175 (by decide +kernel) (by decide +kernel)
theorem mlX5_58 : Cond.methodLinkNest RX5 58 yX11_put "HalfOaths" ∈ nw := tn5 176 (by decide +kernel) (by decide +kernel)
theorem mlX5_62 : Cond.methodLink RX5 62 yX2_kindAt ∈ gw := tm5 177 (by decide +kernel) (by decide +kernel)
theorem mlX5_72 : Cond.methodLink RX5 72 yX5_leastOfUnit ∈ gw := tm5 185 (by decide +kernel) (by decide +kernel)
theorem mlX5_76 : Cond.methodLink RX5 76 yJ9_min_7cf53 ∈ gw := tm5 192 (by decide +kernel) (by decide +kernel)
theorem mlX5_81 : Cond.methodLink RX5 81 yX2_wordAt ∈ gw := tm5 189 (by decide +kernel) (by decide +kernel)
theorem mlX5_87 : Cond.methodLink RX5 87 yX7_readWords ∈ gw := tm5 190 (by decide +kernel) (by decide +kernel)
theorem mlX5_93 : Cond.methodLink RX5 93 yX7_judge ∈ gw := tm5 191 (by decide +kernel) (by decide +kernel)
theorem mlX6_22 : Cond.methodLinkNest RX6 22 yX11_put "HalfOaths" ∈ nw := tn6 47 (by decide +kernel) (by decide +kernel)
theorem mlX6_26 : Cond.methodLink RX6 26 yX6_pairFrom ∈ gw := tm6 48 (by decide +kernel) (by decide +kernel)
theorem mlX6_35 : Cond.methodLink RX6 35 yX6_keepIfMore ∈ gw := tm6 51 (by decide +kernel) (by decide +kernel)
theorem mlX6_39 : Cond.methodLinkNest RX6 39 yX11_cell "HalfOaths" ∈ nw := tn6 55 (by decide +kernel) (by decide +kernel)
theorem mlX6_43 : Cond.methodLink RX6 43 yX2_alikeInAll ∈ gw := tm6 56 (by decide +kernel) (by decide +kernel)
theorem mlX7_17 : Cond.methodLinkNest RX7 17 yX0_init "HalfOaths" ∈ nw := tn1 226 (by decide +kernel) (by decide +kernel)
theorem mlX7_43 : Cond.methodLink RX7 43 yX7_readWords ∈ gw := tm2 207 (by decide +kernel) (by decide +kernel)
theorem mlX7_50 : Cond.methodLinkNest RX7 50 yX11_cell "HalfOaths" ∈ nw := tn2 215 (by decide +kernel) (by decide +kernel)
theorem mlX7_54 : Cond.methodLink RX7 54 yX7_judge ∈ gw := tm2 227 (by decide +kernel) (by decide +kernel)
theorem mlX7_58 : Cond.methodLink RX7 58 yX0_clear ∈ gw := tm2 211 (by decide +kernel) (by decide +kernel)
theorem mlX7_61 : Cond.methodLink RX7 61 yX0_lay ∈ gw := tm2 216 (by decide +kernel) (by decide +kernel)
theorem mlX7_65 : Cond.methodLink RX7 65 yX0_take ∈ gw := tm2 223 (by decide +kernel) (by decide +kernel)
theorem mlX7_73 : Cond.methodLinkNest RX7 73 yX11_put "HalfOaths" ∈ nw := tn2 231 (by decide +kernel) (by decide +kernel)
theorem mlX7_86 : Cond.methodLink RX7 86 yJ6_bitCount_0f7a4 ∈ gw := tm2 232 (by decide +kernel) (by decide +kernel)
theorem mlX7_98 : Cond.methodLink RX7 98 yX4_judge ∈ gw := tm2 238 (by decide +kernel) (by decide +kernel)
theorem mlX7_103 : Cond.methodLink RX7 103 yX0_base ∈ gw := tm3 11 (by decide +kernel) (by decide +kernel)
theorem mlX7_113 : Cond.methodLink RX7 113 yJ9_max_7cf53 ∈ gw := tm3 19 (by decide +kernel) (by decide +kernel)
theorem mlX9_19 : Cond.methodLinkNest RX9 19 yX11_put "HalfOaths" ∈ nw := tn2 164 (by decide +kernel) (by decide +kernel)
theorem mlX10_41 : Cond.methodLink RX10 41 yX10_beginsSign ∈ gw := tm3 104 (by decide +kernel) (by decide +kernel)
theorem mlX10_45 : Cond.methodLink RX10 45 yX10_endOf ∈ gw := tm3 117 (by decide +kernel) (by decide +kernel)
theorem mlX10_49 : Cond.methodLink RX10 49 yX10_signOf ∈ gw := tm3 120 (by decide +kernel) (by decide +kernel)
theorem mlX10_53 : Cond.methodLink RX10 53 yX10_addSign ∈ gw := tm3 180 (by decide +kernel) (by decide +kernel)
theorem mlX10_57 : Cond.methodLinkNest RX10 57 yX11_cell "HalfOaths" ∈ nw := tn3 107 (by decide +kernel) (by decide +kernel)
theorem mlX10_61 : Cond.methodLink RX10 61 yX10_isDigit ∈ gw := tm3 114 (by decide +kernel) (by decide +kernel)
theorem mlX10_65 : Cond.methodLink RX10 65 yX10_numberOf ∈ gw := tm3 185 (by decide +kernel) (by decide +kernel)
theorem mlX10_68 : Cond.methodLinkNest RX10 68 yX11_put "HalfOaths" ∈ nw := tn3 184 (by decide +kernel) (by decide +kernel)
theorem mlX10_72 : Cond.methodLink RX10 72 yX10_step ∈ gw := tm3 188 (by decide +kernel) (by decide +kernel)
theorem mlX10_78 : Cond.methodLink RX10 78 yX10_isLetter ∈ gw := tm3 111 (by decide +kernel) (by decide +kernel)
theorem mlX10_81 : Cond.methodLink RX10 81 yX10_goOn ∈ gw := tm3 108 (by decide +kernel) (by decide +kernel)
theorem mlX10_95 : Cond.methodLink RX10 95 yX10_spells ∈ gw := tm3 129 (by decide +kernel) (by decide +kernel)
theorem mlX10_99 : Cond.methodLink RX10 99 yJ0_length_8abf5 ∈ gw := tm3 132 (by decide +kernel) (by decide +kernel)
theorem mlX10_105 : Cond.methodLink RX10 105 yJ0_charAt_5068e ∈ gw := tm3 142 (by decide +kernel) (by decide +kernel)
theorem mlL_7 : Cond.methodLink RL 7 yX11_hills ∈ gw := tm3 88 (by decide +kernel) (by decide +kernel)
theorem mlL_17 : Cond.methodLink RL 17 yX11_law ∈ gw := tm4 87 (by decide +kernel) (by decide +kernel)
theorem mlL_20 : Cond.methodLink RL 20 yX11_person ∈ gw := tm4 157 (by decide +kernel) (by decide +kernel)
theorem mlL_28 : Cond.methodLink RL 28 yX11_word ∈ gw := tm4 225 (by decide +kernel) (by decide +kernel)
theorem mlL_32 : Cond.methodLink RL 32 yX11_reading ∈ gw := tm4 233 (by decide +kernel) (by decide +kernel)
theorem mlL_36 : Cond.methodLink RL 36 yX11_hold ∈ gw := tm5 6 (by decide +kernel) (by decide +kernel)
theorem mlL_39 : Cond.methodLink RL 39 yX11_mode ∈ gw := tm5 13 (by decide +kernel) (by decide +kernel)
theorem mlL_43 : Cond.methodLink RL 43 yX11_hours ∈ gw := tm5 24 (by decide +kernel) (by decide +kernel)
theorem mlL_46 : Cond.methodLink RL 46 yX11_begin ∈ gw := tm5 75 (by decide +kernel) (by decide +kernel)
theorem mlL_51 : Cond.methodLink RL 51 yX11_stop ∈ gw := tm5 103 (by decide +kernel) (by decide +kernel)
theorem mlL_54 : Cond.methodLink RL 54 yX11_finish ∈ gw := tm5 111 (by decide +kernel) (by decide +kernel)
theorem mlL_57 : Cond.methodLink RL 57 yX11_retract ∈ gw := tm5 119 (by decide +kernel) (by decide +kernel)
theorem mlL_60 : Cond.methodLink RL 60 yX11_guard ∈ gw := tm5 127 (by decide +kernel) (by decide +kernel)
theorem mlL_63 : Cond.methodLink RL 63 yX11_noise ∈ gw := tm5 134 (by decide +kernel) (by decide +kernel)
theorem mlL_66 : Cond.methodLink RL 66 yX11_turn ∈ gw := tm5 141 (by decide +kernel) (by decide +kernel)
theorem mlL_69 : Cond.methodLink RL 69 yX11_repeat ∈ gw := tm5 148 (by decide +kernel) (by decide +kernel)
theorem mlL_72 : Cond.methodLink RL 72 yX11_order ∈ gw := tm5 163 (by decide +kernel) (by decide +kernel)
theorem mlL_75 : Cond.methodLink RL 75 yX11_fence ∈ gw := tm5 196 (by decide +kernel) (by decide +kernel)
theorem mlL_78 : Cond.methodLink RL 78 yX11_gainsay ∈ gw := tm5 207 (by decide +kernel) (by decide +kernel)
theorem mlL_82 : Cond.methodLink RL 82 yX11_whose ∈ gw := tm5 214 (by decide +kernel) (by decide +kernel)
theorem mlL_85 : Cond.methodLink RL 85 yX11_likely ∈ gw := tm5 235 (by decide +kernel) (by decide +kernel)
theorem mlL_88 : Cond.methodLink RL 88 yX11_ask ∈ gw := tm6 2 (by decide +kernel) (by decide +kernel)
theorem mlL_91 : Cond.methodLink RL 91 yX11_coughs ∈ gw := tm6 14 (by decide +kernel) (by decide +kernel)
theorem mlL_95 : Cond.methodLink RL 95 yX11_first ∈ gw := tm6 32 (by decide +kernel) (by decide +kernel)
theorem mlL_98 : Cond.methodLink RL 98 yX11_pairs ∈ gw := tm6 39 (by decide +kernel) (by decide +kernel)
theorem mlL_101 : Cond.methodLink RL 101 yX11_rests ∈ gw := tm6 63 (by decide +kernel) (by decide +kernel)
theorem mlL_104 : Cond.methodLink RL 104 yX11_odds ∈ gw := tm6 73 (by decide +kernel) (by decide +kernel)
theorem mlL_107 : Cond.methodLink RL 107 yX11_most ∈ gw := tm6 80 (by decide +kernel) (by decide +kernel)
theorem mlL_110 : Cond.methodLink RL 110 yX11_which ∈ gw := tm6 88 (by decide +kernel) (by decide +kernel)
theorem mlL_113 : Cond.methodLink RL 113 yX11_trial ∈ gw := tm6 96 (by decide +kernel) (by decide +kernel)
theorem mlL_117 : Cond.methodLink RL 117 yX11_span ∈ gw := tm6 103 (by decide +kernel) (by decide +kernel)
theorem mlL_120 : Cond.methodLink RL 120 yX11_led ∈ gw := tm6 110 (by decide +kernel) (by decide +kernel)
theorem mlL_123 : Cond.methodLink RL 123 yX11_log ∈ gw := tm6 117 (by decide +kernel) (by decide +kernel)
theorem mlL_126 : Cond.methodLink RL 126 yX11_init ∈ gw := tm1 32 (by decide +kernel) (by decide +kernel)
theorem mlL_129 : Cond.methodLink RL 129 yX12_init ∈ gw := tm6 128 (by decide +kernel) (by decide +kernel)
theorem mlL_130 : Cond.methodLink RL 130 yX11_feed ∈ gw := tm2 156 (by decide +kernel) (by decide +kernel)
theorem mlL_134 : Cond.methodLink RL 134 yX12_feed ∈ gw := tm7 8 (by decide +kernel) (by decide +kernel)
theorem mlL_135 : Cond.methodLink RL 135 yX11_end ∈ gw := tm2 167 (by decide +kernel) (by decide +kernel)
theorem mlL_138 : Cond.methodLink RL 138 yX12_end ∈ gw := tm7 12 (by decide +kernel) (by decide +kernel)
theorem mlL_139 : Cond.methodLink RL 139 yL_hills ∈ gw := tm3 83 (by decide +kernel) (by decide +kernel)
theorem mlL_144 : Cond.methodLink RL 144 yX12_hills ∈ gw := tm7 20 (by decide +kernel) (by decide +kernel)
theorem mlL_145 : Cond.methodLink RL 145 yX12_thrown ∈ gw := tm6 122 (by decide +kernel) (by decide +kernel)
theorem mlL_148 : Cond.methodLink RL 148 yL_law ∈ gw := tm4 84 (by decide +kernel) (by decide +kernel)
theorem mlL_150 : Cond.methodLink RL 150 yX12_law ∈ gw := tm7 186 (by decide +kernel) (by decide +kernel)
theorem mlL_151 : Cond.methodLink RL 151 yX11_fault ∈ gw := tm2 171 (by decide +kernel) (by decide +kernel)
theorem mlL_154 : Cond.methodLink RL 154 yX12_fault ∈ gw := tm7 16 (by decide +kernel) (by decide +kernel)
theorem mlL_155 : Cond.methodLink RL 155 yL_person ∈ gw := tm4 152 (by decide +kernel) (by decide +kernel)
theorem mlL_158 : Cond.methodLink RL 158 yX12_person ∈ gw := tm7 190 (by decide +kernel) (by decide +kernel)
theorem mlL_159 : Cond.methodLink RL 159 yL_word ∈ gw := tm4 222 (by decide +kernel) (by decide +kernel)
theorem mlL_162 : Cond.methodLink RL 162 yX12_word ∈ gw := tm8 45 (by decide +kernel) (by decide +kernel)
theorem mlL_163 : Cond.methodLink RL 163 yL_reading ∈ gw := tm4 230 (by decide +kernel) (by decide +kernel)
theorem mlL_166 : Cond.methodLink RL 166 yX12_reading ∈ gw := tm8 49 (by decide +kernel) (by decide +kernel)
theorem mlL_167 : Cond.methodLink RL 167 yL_hold ∈ gw := tm5 3 (by decide +kernel) (by decide +kernel)
theorem mlL_169 : Cond.methodLink RL 169 yX12_hold ∈ gw := tm8 61 (by decide +kernel) (by decide +kernel)
theorem mlL_170 : Cond.methodLink RL 170 yL_mode ∈ gw := tm5 10 (by decide +kernel) (by decide +kernel)
theorem mlL_173 : Cond.methodLink RL 173 yX12_mode ∈ gw := tm8 65 (by decide +kernel) (by decide +kernel)
theorem mlL_174 : Cond.methodLink RL 174 yL_hours ∈ gw := tm5 21 (by decide +kernel) (by decide +kernel)
theorem mlL_176 : Cond.methodLink RL 176 yX12_hours ∈ gw := tm8 69 (by decide +kernel) (by decide +kernel)
theorem mlL_177 : Cond.methodLink RL 177 yL_begin ∈ gw := tm5 71 (by decide +kernel) (by decide +kernel)
theorem mlL_179 : Cond.methodLink RL 179 yX12_begin ∈ gw := tm8 113 (by decide +kernel) (by decide +kernel)
theorem mlL_180 : Cond.methodLink RL 180 yL_stop ∈ gw := tm5 100 (by decide +kernel) (by decide +kernel)
theorem mlL_182 : Cond.methodLink RL 182 yX12_stop ∈ gw := tm8 121 (by decide +kernel) (by decide +kernel)
theorem mlL_183 : Cond.methodLink RL 183 yL_finish ∈ gw := tm5 108 (by decide +kernel) (by decide +kernel)
theorem mlL_185 : Cond.methodLink RL 185 yX12_finish ∈ gw := tm8 125 (by decide +kernel) (by decide +kernel)
theorem mlL_186 : Cond.methodLink RL 186 yL_retract ∈ gw := tm5 116 (by decide +kernel) (by decide +kernel)
theorem mlL_188 : Cond.methodLink RL 188 yX12_retract ∈ gw := tm8 129 (by decide +kernel) (by decide +kernel)
theorem mlL_189 : Cond.methodLink RL 189 yL_guard ∈ gw := tm5 124 (by decide +kernel) (by decide +kernel)
theorem mlL_191 : Cond.methodLink RL 191 yX12_guard ∈ gw := tm8 133 (by decide +kernel) (by decide +kernel)
theorem mlL_192 : Cond.methodLink RL 192 yL_noise ∈ gw := tm5 131 (by decide +kernel) (by decide +kernel)
theorem mlL_194 : Cond.methodLink RL 194 yX12_noise ∈ gw := tm8 141 (by decide +kernel) (by decide +kernel)
theorem mlL_195 : Cond.methodLink RL 195 yL_turn ∈ gw := tm5 138 (by decide +kernel) (by decide +kernel)
theorem mlL_197 : Cond.methodLink RL 197 yX12_turn ∈ gw := tm8 145 (by decide +kernel) (by decide +kernel)
theorem mlL_198 : Cond.methodLink RL 198 yL_repeat ∈ gw := tm5 145 (by decide +kernel) (by decide +kernel)
theorem mlL_200 : Cond.methodLink RL 200 yX12_repeat ∈ gw := tm8 149 (by decide +kernel) (by decide +kernel)
theorem mlL_201 : Cond.methodLink RL 201 yL_order ∈ gw := tm5 160 (by decide +kernel) (by decide +kernel)
theorem mlL_203 : Cond.methodLink RL 203 yX12_order ∈ gw := tm8 153 (by decide +kernel) (by decide +kernel)
theorem mlL_204 : Cond.methodLink RL 204 yL_fence ∈ gw := tm5 193 (by decide +kernel) (by decide +kernel)
theorem mlL_206 : Cond.methodLink RL 206 yX12_fence ∈ gw := tm8 177 (by decide +kernel) (by decide +kernel)
theorem mlL_207 : Cond.methodLink RL 207 yL_gainsay ∈ gw := tm5 204 (by decide +kernel) (by decide +kernel)
theorem mlL_209 : Cond.methodLink RL 209 yX12_gainsay ∈ gw := tm8 181 (by decide +kernel) (by decide +kernel)
theorem mlL_210 : Cond.methodLink RL 210 yX11_peace ∈ gw := tm2 175 (by decide +kernel) (by decide +kernel)
theorem mlL_213 : Cond.methodLink RL 213 yX12_peace ∈ gw := tm8 193 (by decide +kernel) (by decide +kernel)
theorem mlL_214 : Cond.methodLink RL 214 yX11_quiet ∈ gw := tm3 26 (by decide +kernel) (by decide +kernel)
theorem mlL_217 : Cond.methodLink RL 217 yX12_quiet ∈ gw := tm8 204 (by decide +kernel) (by decide +kernel)
theorem mlL_218 : Cond.methodLink RL 218 yL_whose ∈ gw := tm5 211 (by decide +kernel) (by decide +kernel)
theorem mlL_220 : Cond.methodLink RL 220 yX12_whose ∈ gw := tm8 208 (by decide +kernel) (by decide +kernel)
theorem mlL_221 : Cond.methodLink RL 221 yL_likely ∈ gw := tm5 232 (by decide +kernel) (by decide +kernel)
theorem mlL_223 : Cond.methodLink RL 223 yX12_likely ∈ gw := tm8 228 (by decide +kernel) (by decide +kernel)
theorem mlL_224 : Cond.methodLink RL 224 yL_ask ∈ gw := tm5 239 (by decide +kernel) (by decide +kernel)
theorem mlL_226 : Cond.methodLink RL 226 yX12_ask ∈ gw := tm8 235 (by decide +kernel) (by decide +kernel)
theorem mlL_227 : Cond.methodLink RL 227 yL_coughs ∈ gw := tm6 11 (by decide +kernel) (by decide +kernel)
theorem mlL_229 : Cond.methodLink RL 229 yX12_coughs ∈ gw := tm9 3 (by decide +kernel) (by decide +kernel)
theorem mlL_230 : Cond.methodLink RL 230 yL_first ∈ gw := tm6 29 (by decide +kernel) (by decide +kernel)
theorem mlL_232 : Cond.methodLink RL 232 yX12_first ∈ gw := tm9 15 (by decide +kernel) (by decide +kernel)
theorem mlL_233 : Cond.methodLink RL 233 yL_pairs ∈ gw := tm6 36 (by decide +kernel) (by decide +kernel)
theorem mlL_235 : Cond.methodLink RL 235 yX12_pairs ∈ gw := tm9 19 (by decide +kernel) (by decide +kernel)
theorem mlL_236 : Cond.methodLink RL 236 yL_rests ∈ gw := tm6 60 (by decide +kernel) (by decide +kernel)
theorem mlL_238 : Cond.methodLink RL 238 yX12_rests ∈ gw := tm9 35 (by decide +kernel) (by decide +kernel)
theorem mlL_239 : Cond.methodLink RL 239 yL_odds ∈ gw := tm6 70 (by decide +kernel) (by decide +kernel)
theorem mlL_241 : Cond.methodLink RL 241 yX12_odds ∈ gw := tm9 47 (by decide +kernel) (by decide +kernel)
theorem mlL_242 : Cond.methodLink RL 242 yL_most ∈ gw := tm6 77 (by decide +kernel) (by decide +kernel)
theorem mlL_244 : Cond.methodLink RL 244 yX12_most ∈ gw := tm9 51 (by decide +kernel) (by decide +kernel)
theorem mlL_245 : Cond.methodLink RL 245 yL_which ∈ gw := tm6 85 (by decide +kernel) (by decide +kernel)
theorem mlL_247 : Cond.methodLink RL 247 yX12_which ∈ gw := tm9 59 (by decide +kernel) (by decide +kernel)
theorem mlL_248 : Cond.methodLink RL 248 yX11_twins ∈ gw := tm3 30 (by decide +kernel) (by decide +kernel)
theorem mlL_251 : Cond.methodLink RL 251 yX12_twins ∈ gw := tm9 63 (by decide +kernel) (by decide +kernel)
theorem mlL_252 : Cond.methodLink RL 252 yL_trial ∈ gw := tm6 93 (by decide +kernel) (by decide +kernel)
theorem mlL_255 : Cond.methodLink RL 255 yX12_trial ∈ gw := tm9 67 (by decide +kernel) (by decide +kernel)
theorem mlL_256 : Cond.methodLink RL 256 yL_span ∈ gw := tm6 100 (by decide +kernel) (by decide +kernel)
theorem mlL_258 : Cond.methodLink RL 258 yX12_span ∈ gw := tm9 82 (by decide +kernel) (by decide +kernel)
theorem mlL_259 : Cond.methodLink RL 259 yL_led ∈ gw := tm6 107 (by decide +kernel) (by decide +kernel)
theorem mlL_261 : Cond.methodLink RL 261 yX12_led ∈ gw := tm9 86 (by decide +kernel) (by decide +kernel)
theorem mlL_262 : Cond.methodLink RL 262 yL_log ∈ gw := tm6 114 (by decide +kernel) (by decide +kernel)
theorem mlL_264 : Cond.methodLink RL 264 yX12_log ∈ gw := tm9 94 (by decide +kernel) (by decide +kernel)
theorem mlL_265 : Cond.methodLink RL 265 yX11_seed ∈ gw := tm3 43 (by decide +kernel) (by decide +kernel)
theorem mlL_268 : Cond.methodLink RL 268 yX12_seed ∈ gw := tm9 98 (by decide +kernel) (by decide +kernel)
theorem mlL_269 : Cond.methodLink RL 269 yX11_undo ∈ gw := tm3 47 (by decide +kernel) (by decide +kernel)
theorem mlL_273 : Cond.methodLink RL 273 yX12_undo ∈ gw := tm7 4 (by decide +kernel) (by decide +kernel)
theorem mlL_274 : Cond.methodLink RL 274 yX11_image ∈ gw := tm3 62 (by decide +kernel) (by decide +kernel)
theorem mlL_277 : Cond.methodLink RL 277 yX12_image ∈ gw := tm6 236 (by decide +kernel) (by decide +kernel)
theorem mlL_278 : Cond.methodLink RL 278 yX11_back ∈ gw := tm3 71 (by decide +kernel) (by decide +kernel)
theorem mlL_281 : Cond.methodLink RL 281 yX12_back ∈ gw := tm7 0 (by decide +kernel) (by decide +kernel)
theorem mlL_282 : Cond.methodLink RL 282 yX11_count ∈ gw := tm3 75 (by decide +kernel) (by decide +kernel)
theorem mlL_285 : Cond.methodLink RL 285 yX12_count ∈ gw := tm9 102 (by decide +kernel) (by decide +kernel)
theorem mlX12_80 : Cond.methodLink RX12 80 yX12_personAt ∈ gw := tm7 67 (by decide +kernel) (by decide +kernel)
theorem mlX12_84 : Cond.methodLink RX12 84 yX12_of ∈ gw := tm7 92 (by decide +kernel) (by decide +kernel)
theorem mlX12_87 : Cond.methodLink RX12 87 yX12_people ∈ gw := tm7 63 (by decide +kernel) (by decide +kernel)
theorem mlX12_91 : Cond.methodLink RX12 91 yX12_in ∈ gw := tm7 96 (by decide +kernel) (by decide +kernel)
theorem mlX12_105 : Cond.methodLink RX12 105 yX12_isAt ∈ gw := tm7 36 (by decide +kernel) (by decide +kernel)
theorem mlX12_112 : Cond.methodLink RX12 112 yX12_blanks ∈ gw := tm7 32 (by decide +kernel) (by decide +kernel)
theorem mlX12_115 : Cond.methodLink RX12 115 yJ0_length_8abf5 ∈ gw := tm7 57 (by decide +kernel) (by decide +kernel)
theorem mlX12_120 : Cond.methodLink RX12 120 yJ0_charAt_5068e ∈ gw := tm7 58 (by decide +kernel) (by decide +kernel)
theorem mlX12_124 : Cond.methodLink RX12 124 yX12_letters ∈ gw := tm7 44 (by decide +kernel) (by decide +kernel)
theorem mlX12_127 : Cond.methodLink RX12 127 yX12_isWord ∈ gw := tm7 53 (by decide +kernel) (by decide +kernel)
theorem mlX12_131 : Cond.methodLink RX12 131 yX12_passes ∈ gw := tm7 111 (by decide +kernel) (by decide +kernel)
theorem mlX12_134 : Cond.methodLink RX12 134 yX12_number ∈ gw := tm7 102 (by decide +kernel) (by decide +kernel)
theorem mlX12_161 : Cond.methodLink RX12 161 yX12_hasNumber ∈ gw := tm7 99 (by decide +kernel) (by decide +kernel)
theorem mlX12_165 : Cond.methodLink RX12 165 yX12_kindRead ∈ gw := tm7 74 (by decide +kernel) (by decide +kernel)
theorem mlX12_168 : Cond.methodLink RX12 168 yX12_readOathWord ∈ gw := tm7 88 (by decide +kernel) (by decide +kernel)
theorem mlX12_171 : Cond.methodLink RX12 171 yX12_readOath ∈ gw := tm7 70 (by decide +kernel) (by decide +kernel)
theorem mlX12_176 : Cond.methodLink RX12 176 yX12_told ∈ gw := tm7 107 (by decide +kernel) (by decide +kernel)
theorem mlX12_182 : Cond.methodLink RX12 182 yX12_readNumber ∈ gw := tm7 122 (by decide +kernel) (by decide +kernel)
theorem mlX12_187 : Cond.methodLink RX12 187 yX12_readPerson ∈ gw := tm7 59 (by decide +kernel) (by decide +kernel)
theorem mlX12_193 : Cond.methodLink RX12 193 yX12_readMode ∈ gw := tm7 118 (by decide +kernel) (by decide +kernel)
theorem mlX12_215 : Cond.methodLink RX12 215 yX12_wordOfPart ∈ gw := tm7 171 (by decide +kernel) (by decide +kernel)
theorem mlX12_218 : Cond.methodLink RX12 218 yX12_emits ∈ gw := tm7 152 (by decide +kernel) (by decide +kernel)
theorem mlX12_222 : Cond.methodLink RX12 222 yX12_readPart ∈ gw := tm7 167 (by decide +kernel) (by decide +kernel)
theorem mlX12_225 : Cond.methodLink RX12 225 yX12_sign ∈ gw := tm7 148 (by decide +kernel) (by decide +kernel)
theorem mlX12_237 : Cond.methodLink RX12 237 yX12_readCond ∈ gw := tm7 136 (by decide +kernel) (by decide +kernel)
theorem mlX12_240 : Cond.methodLink RX12 240 yX12_readAtom ∈ gw := tm7 144 (by decide +kernel) (by decide +kernel)
theorem mlX12_243 : Cond.methodLink RX12 243 yX12_readTag ∈ gw := tm7 156 (by decide +kernel) (by decide +kernel)
theorem mlX12_246 : Cond.methodLink RX12 246 yX12_readSum ∈ gw := tm7 163 (by decide +kernel) (by decide +kernel)
theorem mlX12_251 : Cond.methodLink RX12 251 yX12_readAllOf ∈ gw := tm7 140 (by decide +kernel) (by decide +kernel)
theorem mlX12_262 : Cond.methodLink RX12 262 yX12_readHillsLine ∈ gw := tm7 48 (by decide +kernel) (by decide +kernel)
theorem mlX12_265 : Cond.methodLink RX12 265 yX12_readLawLine ∈ gw := tm7 129 (by decide +kernel) (by decide +kernel)
theorem mlX12_268 : Cond.methodLink RX12 268 yX12_uses ∈ gw := tm7 28 (by decide +kernel) (by decide +kernel)
theorem mlX12_271 : Cond.methodLink RX12 271 yX12_readLine ∈ gw := tm7 40 (by decide +kernel) (by decide +kernel)
theorem mlX12_275 : Cond.methodLink RX12 275 yX12_readAll ∈ gw := tm7 24 (by decide +kernel) (by decide +kernel)
theorem mlX12_279 : Cond.methodLink RX12 279 yX12_throwsIf ∈ gw := tm7 182 (by decide +kernel) (by decide +kernel)
theorem mlX12_285 : Cond.methodLink RX12 285 yJ9_min_7cf53 ∈ gw := tm7 230 (by decide +kernel) (by decide +kernel)
theorem mlX12_290 : Cond.methodLink RX12 290 yX12_begins ∈ gw := tm7 214 (by decide +kernel) (by decide +kernel)
theorem mlX12_294 : Cond.methodLink RX12 294 yX12_isLaid ∈ gw := tm7 231 (by decide +kernel) (by decide +kernel)
theorem mlX12_303 : Cond.methodLink RX12 303 yX12_kindOf ∈ gw := tm7 218 (by decide +kernel) (by decide +kernel)
theorem mlX12_306 : Cond.methodLink RX12 306 yX12_numberOf ∈ gw := tm7 222 (by decide +kernel) (by decide +kernel)
theorem mlX12_309 : Cond.methodLink RX12 309 yX12_comes ∈ gw := tm7 226 (by decide +kernel) (by decide +kernel)
theorem mlX12_312 : Cond.methodLink RX12 312 yX12_endsClauses ∈ gw := tm7 235 (by decide +kernel) (by decide +kernel)
theorem mlX12_315 : Cond.methodLink RX12 315 yJ6_bitCount_0f7a4 ∈ gw := tm8 7 (by decide +kernel) (by decide +kernel)
theorem mlX12_321 : Cond.methodLink RX12 321 yX12_factOf ∈ gw := tm8 17 (by decide +kernel) (by decide +kernel)
theorem mlX12_324 : Cond.methodLink RX12 324 yX12_holdsLine ∈ gw := tm8 13 (by decide +kernel) (by decide +kernel)
theorem mlX12_327 : Cond.methodLink RX12 327 yJ9_max_7cf53 ∈ gw := tm8 8 (by decide +kernel) (by decide +kernel)
theorem mlX12_330 : Cond.methodLink RX12 330 yX12_baseOf ∈ gw := tm8 3 (by decide +kernel) (by decide +kernel)
theorem mlX12_333 : Cond.methodLink RX12 333 yX12_sumOf ∈ gw := tm8 9 (by decide +kernel) (by decide +kernel)
theorem mlX12_336 : Cond.methodLink RX12 336 yX12_reads ∈ gw := tm7 210 (by decide +kernel) (by decide +kernel)
theorem mlX12_339 : Cond.methodLink RX12 339 yX12_weighs ∈ gw := tm7 239 (by decide +kernel) (by decide +kernel)
theorem mlX12_342 : Cond.methodLink RX12 342 yX12_hears ∈ gw := tm8 57 (by decide +kernel) (by decide +kernel)
theorem mlX12_345 : Cond.methodLink RX12 345 yX12_weightAt ∈ gw := tm7 206 (by decide +kernel) (by decide +kernel)
theorem mlX12_351 : Cond.methodLink RX12 351 yX12_isTold ∈ gw := tm8 105 (by decide +kernel) (by decide +kernel)
theorem mlX12_355 : Cond.methodLink RX12 355 yX12_allIn ∈ gw := tm8 101 (by decide +kernel) (by decide +kernel)
theorem mlX12_358 : Cond.methodLink RX12 358 yX12_isHeld ∈ gw := tm8 109 (by decide +kernel) (by decide +kernel)
theorem mlX12_362 : Cond.methodLink RX12 362 yX12_drawn ∈ gw := tm8 89 (by decide +kernel) (by decide +kernel)
theorem mlX12_365 : Cond.methodLink RX12 365 yX12_chanceOf ∈ gw := tm8 94 (by decide +kernel) (by decide +kernel)
theorem mlX12_368 : Cond.methodLink RX12 368 yX12_isBroken ∈ gw := tm8 97 (by decide +kernel) (by decide +kernel)
theorem mlX12_371 : Cond.methodLink RX12 371 yX12_speaksOn ∈ gw := tm8 85 (by decide +kernel) (by decide +kernel)
theorem mlX12_374 : Cond.methodLink RX12 374 yX12_oneHour ∈ gw := tm8 81 (by decide +kernel) (by decide +kernel)
theorem mlX12_377 : Cond.methodLink RX12 377 yX12_inOrder ∈ gw := tm7 202 (by decide +kernel) (by decide +kernel)
theorem mlX12_380 : Cond.methodLink RX12 380 yX12_countsOf ∈ gw := tm8 41 (by decide +kernel) (by decide +kernel)
theorem mlX12_383 : Cond.methodLink RX12 383 yX12_heldWeight ∈ gw := tm8 37 (by decide +kernel) (by decide +kernel)
theorem mlX12_386 : Cond.methodLink RX12 386 yX12_noPerson ∈ gw := tm7 194 (by decide +kernel) (by decide +kernel)
theorem mlX12_389 : Cond.methodLink RX12 389 yX12_wordAt ∈ gw := tm7 198 (by decide +kernel) (by decide +kernel)
theorem mlX12_393 : Cond.methodLink RX12 393 yX12_sureOf ∈ gw := tm8 21 (by decide +kernel) (by decide +kernel)
theorem mlX12_396 : Cond.methodLink RX12 396 yX12_needOf ∈ gw := tm8 25 (by decide +kernel) (by decide +kernel)
theorem mlX12_399 : Cond.methodLink RX12 399 yX12_goingOf ∈ gw := tm8 29 (by decide +kernel) (by decide +kernel)
theorem mlX12_402 : Cond.methodLink RX12 402 yX12_shareOf ∈ gw := tm8 33 (by decide +kernel) (by decide +kernel)
theorem mlX12_405 : Cond.methodLink RX12 405 yX12_whatRead ∈ gw := tm8 53 (by decide +kernel) (by decide +kernel)
theorem mlX12_408 : Cond.methodLink RX12 408 yX12_remembers ∈ gw := tm8 73 (by decide +kernel) (by decide +kernel)
theorem mlX12_411 : Cond.methodLink RX12 411 yX12_goesOn ∈ gw := tm8 77 (by decide +kernel) (by decide +kernel)
theorem mlX12_414 : Cond.methodLink RX12 414 yX12_isNot ∈ gw := tm8 117 (by decide +kernel) (by decide +kernel)
theorem mlX12_417 : Cond.methodLink RX12 417 yX12_isNow ∈ gw := tm8 137 (by decide +kernel) (by decide +kernel)
theorem mlX12_423 : Cond.methodLink RX12 423 yJ6_numberOfTrailingZeros_0f7a4 ∈ gw := tm8 169 (by decide +kernel) (by decide +kernel)
theorem mlX12_426 : Cond.methodLink RX12 426 yX12_laysUnits ∈ gw := tm8 157 (by decide +kernel) (by decide +kernel)
theorem mlX12_429 : Cond.methodLink RX12 429 yX12_orders ∈ gw := tm8 161 (by decide +kernel) (by decide +kernel)
theorem mlX12_432 : Cond.methodLink RX12 432 yX12_laysOrder ∈ gw := tm8 165 (by decide +kernel) (by decide +kernel)
theorem mlX12_435 : Cond.methodLink RX12 435 yX12_putsInOrder ∈ gw := tm8 173 (by decide +kernel) (by decide +kernel)
theorem mlX12_438 : Cond.methodLink RX12 438 yX12_laysHeld ∈ gw := tm8 185 (by decide +kernel) (by decide +kernel)
theorem mlX12_441 : Cond.methodLink RX12 441 yX12_gainsays ∈ gw := tm8 189 (by decide +kernel) (by decide +kernel)
theorem mlX12_444 : Cond.methodLink RX12 444 yX12_has ∈ gw := tm8 201 (by decide +kernel) (by decide +kernel)
theorem mlX12_447 : Cond.methodLink RX12 447 yX12_isPeace ∈ gw := tm8 197 (by decide +kernel) (by decide +kernel)
theorem mlX12_450 : Cond.methodLink RX12 450 yX12_kindAt ∈ gw := tm8 224 (by decide +kernel) (by decide +kernel)
theorem mlX12_453 : Cond.methodLink RX12 453 yX12_wrongRows ∈ gw := tm8 220 (by decide +kernel) (by decide +kernel)
theorem mlX12_456 : Cond.methodLink RX12 456 yX12_areTold ∈ gw := tm8 212 (by decide +kernel) (by decide +kernel)
theorem mlX12_459 : Cond.methodLink RX12 459 yX12_thatFit ∈ gw := tm8 216 (by decide +kernel) (by decide +kernel)
theorem mlX12_462 : Cond.methodLink RX12 462 yX12_firstOf ∈ gw := tm8 232 (by decide +kernel) (by decide +kernel)
theorem mlX12_465 : Cond.methodLink RX12 465 yX12_partBy ∈ gw := tm8 239 (by decide +kernel) (by decide +kernel)
theorem mlX12_468 : Cond.methodLink RX12 468 yX12_areCoughs ∈ gw := tm9 7 (by decide +kernel) (by decide +kernel)
theorem mlX12_471 : Cond.methodLink RX12 471 yX12_laysWins ∈ gw := tm9 11 (by decide +kernel) (by decide +kernel)
theorem mlX12_474 : Cond.methodLink RX12 474 yX12_alikeOf ∈ gw := tm9 31 (by decide +kernel) (by decide +kernel)
theorem mlX12_477 : Cond.methodLink RX12 477 yX12_pairedBy ∈ gw := tm9 27 (by decide +kernel) (by decide +kernel)
theorem mlX12_480 : Cond.methodLink RX12 480 yX12_laysPairs ∈ gw := tm9 23 (by decide +kernel) (by decide +kernel)
theorem mlX12_483 : Cond.methodLink RX12 483 yX12_speakerHas ∈ gw := tm9 39 (by decide +kernel) (by decide +kernel)
theorem mlX12_487 : Cond.methodLink RX12 487 yX12_rivalHas ∈ gw := tm9 43 (by decide +kernel) (by decide +kernel)
theorem mlX12_490 : Cond.methodLink RX12 490 yX12_amountOf ∈ gw := tm9 55 (by decide +kernel) (by decide +kernel)
theorem mlX12_493 : Cond.methodLink RX12 493 yX12_noHours ∈ gw := tm9 71 (by decide +kernel) (by decide +kernel)
theorem mlX12_496 : Cond.methodLink RX12 496 yX12_keepsAll ∈ gw := tm9 74 (by decide +kernel) (by decide +kernel)
theorem mlX12_499 : Cond.methodLink RX12 499 yX12_bringsBack ∈ gw := tm9 78 (by decide +kernel) (by decide +kernel)
theorem mlX12_502 : Cond.methodLink RX12 502 yX12_ofLog ∈ gw := tm9 90 (by decide +kernel) (by decide +kernel)
theorem mlX12_505 : Cond.methodLink RX12 505 yX12_sumOfAll ∈ gw := tm9 106 (by decide +kernel) (by decide +kernel)
theorem mlJ0_335 : Cond.methodLink RJ0 335 yJ0_coder_7d493 ∈ gw := tm3 136 (by decide +kernel) (by decide +kernel)
theorem mlJ0_492 : Cond.methodLink RJ0 492 yJ0_isLatin1_aae02 ∈ gw := tm3 146 (by decide +kernel) (by decide +kernel)
theorem mlJ0_495 : Cond.methodLink RJ0 495 yJ1_charAt_3b067 ∈ gw := tm3 150 (by decide +kernel) (by decide +kernel)
theorem mlJ0_498 : Cond.methodLink RJ0 498 yJ2_charAt_3b067 ∈ gw := tm3 161 (by decide +kernel) (by decide +kernel)
theorem mlJ0_1059 : Cond.methodLink RJ0 1059 yJ3_checkIndex_8e157 ∈ gw := tm3 158 (by decide +kernel) (by decide +kernel)
theorem mlJ1_9 : Cond.methodLink RJ1 9 yJ0_checkIndex_df160 ∈ gw := tm3 153 (by decide +kernel) (by decide +kernel)
theorem mlJ2_48 : Cond.methodLink RJ2 48 yJ2_length_9d52b ∈ gw := tm3 167 (by decide +kernel) (by decide +kernel)
theorem mlJ2_67 : Cond.methodLink RJ2 67 yJ2_checkIndex_2214a ∈ gw := tm3 164 (by decide +kernel) (by decide +kernel)
theorem mlJ2_71 : Cond.methodLink RJ2 71 yJ2_getChar_3b067 ∈ gw := tm3 171 (by decide +kernel) (by decide +kernel)
theorem mlJ2_414 : Cond.methodLink RJ2 414 yJ0_checkIndex_df160 ∈ gw := tm3 170 (by decide +kernel) (by decide +kernel)
