/-! RULES FOR PRINTED WALKS: numbers by what they are, what a call comes to, what is read and written by the shared helpers -/
abbrev GG : Type := Int → Int → Int
theorem wr_ln (r : Int) : wr (ln r) = ln r := by
  have h0 : shT.all (fun q => decide (q.2 < 10000)) = true := by decide +kernel
  have h1 : (shp r).2 < 10000 := by
    unfold shp
    by_cases q : r < 1
    · rw [if_pos q]; decide
    · rw [if_neg q, List.getD_eq_getElem?_getD]
      cases hz : shT[(r - 1).toNat]? with
      | none => decide
      | some z =>
        have := List.all_eq_true.mp h0 z (List.mem_of_getElem? hz)
        simpa using this
  unfold ln
  exact wr_id (by omega) (by omega)
def bI (F : Int → GG → Prop) (K : Ou → HP → Prop) : Ou → HP → Prop := fun o h => (∃ x g, o = .inl (vI x) ∧ h = stt g ∧ F x g) ∨ (∃ E g, o = .inr E ∧ h = stt g ∧ K (.inr E) (stt g))
def bR (F : Int → GG → Prop) (K : Ou → HP → Prop) : Ou → HP → Prop := fun o h => (∃ x g, o = .inl (vR x) ∧ h = stt g ∧ F x g) ∨ (∃ E g, o = .inr E ∧ h = stt g ∧ K (.inr E) (stt g))
def bV (F : GG → Prop) (K : Ou → HP → Prop) : Ou → HP → Prop := fun o h => (∃ g, o = .inl vU ∧ h = stt g ∧ F g) ∨ (∃ E g, o = .inr E ∧ h = stt g ∧ K (.inr E) (stt g))
theorem bI_in {F : Int → GG → Prop} {K : Ou → HP → Prop} {x : Int} {g : GG} (h : F x g) : bI F K (.inl (vI x)) (stt g) := Or.inl ⟨x, g, rfl, rfl, h⟩
theorem bR_in {F : Int → GG → Prop} {K : Ou → HP → Prop} {x : Int} {g : GG} (h : F x g) : bR F K (.inl (vR x)) (stt g) := Or.inl ⟨x, g, rfl, rfl, h⟩
theorem bV_in {F : GG → Prop} {K : Ou → HP → Prop} {g : GG} (h : F g) : bV F K (.inl vU) (stt g) := Or.inl ⟨g, rfl, rfl, h⟩
theorem bI_th {F : Int → GG → Prop} {K : Ou → HP → Prop} {E : String} {g : GG} (h : K (.inr E) (stt g)) : bI F K (.inr E) (stt g) := Or.inr ⟨E, g, rfl, rfl, h⟩
theorem bR_th {F : Int → GG → Prop} {K : Ou → HP → Prop} {E : String} {g : GG} (h : K (.inr E) (stt g)) : bR F K (.inr E) (stt g) := Or.inr ⟨E, g, rfl, rfl, h⟩
theorem bV_th {F : GG → Prop} {K : Ou → HP → Prop} {E : String} {g : GG} (h : K (.inr E) (stt g)) : bV F K (.inr E) (stt g) := Or.inr ⟨E, g, rfl, rfl, h⟩
def cel (g : GG) (r i : Int) : Int := if 0 ≤ wr i ∧ wr i < ln r then g r (wr i) else 0
def puc (g : GG) (r i v : Int) : GG := if 0 ≤ wr i ∧ wr i < ln r then upd2 g r (wr i) v else g
/-- a Hills object's place -/
def HI (t : Int) : Prop := t ∈ ([8, 17, 26, 45, 54, 63, 72, 81, 90, 99, 108, 117, 126, 135, 144] : List Int)
def LA (t : Int) : Prop := t ∈ ([35, 38, 41] : List Int)
def CU (t : Int) : Prop := t ∈ ([154, 157, 158, 159] : List Int)
theorem HI.all0 {P : Int → Bool} (h : ([8, 17, 26, 45, 54, 63, 72, 81, 90, 99, 108, 117, 126, 135, 144] : List Int).all P = true) {t : Int} (ht : HI t) : P t = true :=
  List.all_eq_true.mp h t ht
theorem HI.ob {t : Int} (h : HI t) : OB t 2 := show shp t = (12, 0) from of_decide_eq_true (HI.all0 (P := fun t => decide (shp t = (12, 0))) (by decide +kernel) h)
theorem HI.r0 {t : Int} (h : HI t) : RC t 0 = t + 1 + 0 := of_decide_eq_true (HI.all0 (P := fun t => decide (RC t 0 = t + 1 + 0)) (by decide +kernel) h)
theorem HI.a0 {t : Int} (h : HI t) : IA (t + 1 + 0) := show (shp (t + 1 + 0)).1 = 0 from of_decide_eq_true (HI.all0 (P := fun t => decide ((shp (t + 1 + 0)).1 = 0)) (by decide +kernel) h)
theorem HI.l0 {t : Int} (h : HI t) : ln (t + 1 + 0) = 72 := of_decide_eq_true (HI.all0 (P := fun t => decide (ln (t + 1 + 0) = 72)) (by decide +kernel) h)
theorem HI.r1 {t : Int} (h : HI t) : RC t 1 = t + 1 + 1 := of_decide_eq_true (HI.all0 (P := fun t => decide (RC t 1 = t + 1 + 1)) (by decide +kernel) h)
theorem HI.a1 {t : Int} (h : HI t) : IA (t + 1 + 1) := show (shp (t + 1 + 1)).1 = 0 from of_decide_eq_true (HI.all0 (P := fun t => decide ((shp (t + 1 + 1)).1 = 0)) (by decide +kernel) h)
theorem HI.l1 {t : Int} (h : HI t) : ln (t + 1 + 1) = 6 := of_decide_eq_true (HI.all0 (P := fun t => decide (ln (t + 1 + 1) = 6)) (by decide +kernel) h)
theorem HI.r2 {t : Int} (h : HI t) : RC t 2 = t + 1 + 2 := of_decide_eq_true (HI.all0 (P := fun t => decide (RC t 2 = t + 1 + 2)) (by decide +kernel) h)
theorem HI.a2 {t : Int} (h : HI t) : IA (t + 1 + 2) := show (shp (t + 1 + 2)).1 = 0 from of_decide_eq_true (HI.all0 (P := fun t => decide ((shp (t + 1 + 2)).1 = 0)) (by decide +kernel) h)
theorem HI.l2 {t : Int} (h : HI t) : ln (t + 1 + 2) = 6 := of_decide_eq_true (HI.all0 (P := fun t => decide (ln (t + 1 + 2) = 6)) (by decide +kernel) h)
theorem HI.r3 {t : Int} (h : HI t) : RC t 3 = t + 1 + 3 := of_decide_eq_true (HI.all0 (P := fun t => decide (RC t 3 = t + 1 + 3)) (by decide +kernel) h)
theorem HI.a3 {t : Int} (h : HI t) : IA (t + 1 + 3) := show (shp (t + 1 + 3)).1 = 0 from of_decide_eq_true (HI.all0 (P := fun t => decide ((shp (t + 1 + 3)).1 = 0)) (by decide +kernel) h)
theorem HI.l3 {t : Int} (h : HI t) : ln (t + 1 + 3) = 6 := of_decide_eq_true (HI.all0 (P := fun t => decide (ln (t + 1 + 3) = 6)) (by decide +kernel) h)
theorem HI.r4 {t : Int} (h : HI t) : RC t 4 = t + 1 + 4 := of_decide_eq_true (HI.all0 (P := fun t => decide (RC t 4 = t + 1 + 4)) (by decide +kernel) h)
theorem HI.a4 {t : Int} (h : HI t) : IA (t + 1 + 4) := show (shp (t + 1 + 4)).1 = 0 from of_decide_eq_true (HI.all0 (P := fun t => decide ((shp (t + 1 + 4)).1 = 0)) (by decide +kernel) h)
theorem HI.l4 {t : Int} (h : HI t) : ln (t + 1 + 4) = 6 := of_decide_eq_true (HI.all0 (P := fun t => decide (ln (t + 1 + 4) = 6)) (by decide +kernel) h)
theorem HI.r5 {t : Int} (h : HI t) : RC t 5 = t + 1 + 5 := of_decide_eq_true (HI.all0 (P := fun t => decide (RC t 5 = t + 1 + 5)) (by decide +kernel) h)
theorem HI.a5 {t : Int} (h : HI t) : IA (t + 1 + 5) := show (shp (t + 1 + 5)).1 = 0 from of_decide_eq_true (HI.all0 (P := fun t => decide ((shp (t + 1 + 5)).1 = 0)) (by decide +kernel) h)
theorem HI.l5 {t : Int} (h : HI t) : ln (t + 1 + 5) = 6 := of_decide_eq_true (HI.all0 (P := fun t => decide (ln (t + 1 + 5) = 6)) (by decide +kernel) h)
theorem HI.r6 {t : Int} (h : HI t) : RC t 6 = t + 1 + 6 := of_decide_eq_true (HI.all0 (P := fun t => decide (RC t 6 = t + 1 + 6)) (by decide +kernel) h)
theorem HI.a6 {t : Int} (h : HI t) : IA (t + 1 + 6) := show (shp (t + 1 + 6)).1 = 0 from of_decide_eq_true (HI.all0 (P := fun t => decide ((shp (t + 1 + 6)).1 = 0)) (by decide +kernel) h)
theorem HI.l6 {t : Int} (h : HI t) : ln (t + 1 + 6) = 4 := of_decide_eq_true (HI.all0 (P := fun t => decide (ln (t + 1 + 6) = 4)) (by decide +kernel) h)
theorem HI.r7 {t : Int} (h : HI t) : RC t 7 = t + 1 + 7 := of_decide_eq_true (HI.all0 (P := fun t => decide (RC t 7 = t + 1 + 7)) (by decide +kernel) h)
theorem HI.a7 {t : Int} (h : HI t) : IA (t + 1 + 7) := show (shp (t + 1 + 7)).1 = 0 from of_decide_eq_true (HI.all0 (P := fun t => decide ((shp (t + 1 + 7)).1 = 0)) (by decide +kernel) h)
theorem HI.l7 {t : Int} (h : HI t) : ln (t + 1 + 7) = 300 := of_decide_eq_true (HI.all0 (P := fun t => decide (ln (t + 1 + 7) = 300)) (by decide +kernel) h)
theorem LA.all0 {P : Int → Bool} (h : ([35, 38, 41] : List Int).all P = true) {t : Int} (ht : LA t) : P t = true := List.all_eq_true.mp h t ht
theorem CU.all0 {P : Int → Bool} (h : ([154, 157, 158, 159] : List Int).all P = true) {t : Int} (ht : CU t) : P t = true := List.all_eq_true.mp h t ht
theorem LA.ob {t : Int} (h : LA t) : OB t 3 := show shp t = (13, 0) from of_decide_eq_true (LA.all0 (P := fun t => decide (shp t = (13, 0))) (by decide +kernel) h)
theorem CU.ob {t : Int} (h : CU t) : OB t 0 := show shp t = (10, 0) from of_decide_eq_true (CU.all0 (P := fun t => decide (shp t = (10, 0))) (by decide +kernel) h)
theorem LA.r0 {t : Int} (h : LA t) : RC t 0 = t + 1 + 0 := of_decide_eq_true (LA.all0 (P := fun t => decide (RC t 0 = t + 1 + 0)) (by decide +kernel) h)
theorem LA.a0 {t : Int} (h : LA t) : IA (t + 1 + 0) := show (shp (t + 1 + 0)).1 = 0 from of_decide_eq_true (LA.all0 (P := fun t => decide ((shp (t + 1 + 0)).1 = 0)) (by decide +kernel) h)
theorem LA.l0 {t : Int} (h : LA t) : ln (t + 1 + 0) = 400 := of_decide_eq_true (LA.all0 (P := fun t => decide (ln (t + 1 + 0) = 400)) (by decide +kernel) h)
theorem LA.r1 {t : Int} (h : LA t) : RC t 1 = t + 1 + 1 := of_decide_eq_true (LA.all0 (P := fun t => decide (RC t 1 = t + 1 + 1)) (by decide +kernel) h)
theorem LA.a1 {t : Int} (h : LA t) : IA (t + 1 + 1) := show (shp (t + 1 + 1)).1 = 0 from of_decide_eq_true (LA.all0 (P := fun t => decide ((shp (t + 1 + 1)).1 = 0)) (by decide +kernel) h)
theorem LA.l1 {t : Int} (h : LA t) : ln (t + 1 + 1) = 32 := of_decide_eq_true (LA.all0 (P := fun t => decide (ln (t + 1 + 1) = 32)) (by decide +kernel) h)
theorem HI8 : HI 8 := show (8 : Int) ∈ ([8, 17, 26, 45, 54, 63, 72, 81, 90, 99, 108, 117, 126, 135, 144] : List Int) by decide +kernel
theorem HI17 : HI 17 := show (17 : Int) ∈ ([8, 17, 26, 45, 54, 63, 72, 81, 90, 99, 108, 117, 126, 135, 144] : List Int) by decide +kernel
theorem HI26 : HI 26 := show (26 : Int) ∈ ([8, 17, 26, 45, 54, 63, 72, 81, 90, 99, 108, 117, 126, 135, 144] : List Int) by decide +kernel
theorem LA35 : LA 35 := show (35 : Int) ∈ ([35, 38, 41] : List Int) by decide +kernel
theorem LA38 : LA 38 := show (38 : Int) ∈ ([35, 38, 41] : List Int) by decide +kernel
theorem LA41 : LA 41 := show (41 : Int) ∈ ([35, 38, 41] : List Int) by decide +kernel
theorem isA_lit {g : GG} {r : Int} {k n : Nat} (h : shp r = (k, n)) (hk : k ≠ 99) : isA (stt g) r k n := by
  have h1 := shp_lt (t := r) (by rw [h]; exact hk)
  refine ⟨h, ?_⟩
  show r ≤ ((190 : Nat) : Int)
  omega
section AMP
variable {Γ : Cfg} {l : Launch} {M : MT} {d b pc : Nat} {L S : List AV} {h : HP} {K : Ou → HP → Prop}
theorem nar_z {x : Int} (h : wr x = 0 ∨ wr x = 1) : narrow .boolean (.int (Int32.ofInt x)) = .int (Int32.ofInt x) := by
  rcases h with h | h
  · rw [show Int32.ofInt x = 0 from wr_eq0.mpr h]
    rfl
  · have : Int32.ofInt x = Int32.ofInt 1 := wr_eq.mpr (h.trans (by decide +kernel))
    rw [this]
    rfl
theorem fit_z {x : Int} (h : wr x = 0 ∨ wr x = 1) : fits .boolean (.int (Int32.ofInt x)) = true := by
  rcases h with h | h
  · rw [show Int32.ofInt x = 0 from wr_eq0.mpr h]
    rfl
  · have : Int32.ofInt x = Int32.ofInt 1 := wr_eq.mpr (h.trans (by decide +kernel))
    rw [this]
    rfl
theorem ax_icmp_eq {x y x' y' : Int} {off : Int} {tgt : Nat} (dg : decode M.2.1 pc = .ok (.if_icmp .eq off, 3)) (ht : (pc : Int) + off = (tgt : Int)) (hx : wr x = x') (hy : wr y = y') (kt : x' = y' → AW Γ l M d b tgt L S h K) (kf : ¬ (x' = y') → AW Γ l M d b (pc + 3) L S h K) : AW Γ l M d b pc L (vI y :: vI x :: S) h K := by
  subst hx hy
  exact aw_icmp_eq dg ht kt kf
theorem ax_if_eq {x x' : Int} {off : Int} {tgt : Nat} (dg : decode M.2.1 pc = .ok (.ifCond .eq off, 3)) (ht : (pc : Int) + off = (tgt : Int)) (hx : wr x = x') (kt : x' = 0 → AW Γ l M d b tgt L S h K) (kf : ¬ (x' = 0) → AW Γ l M d b (pc + 3) L S h K) : AW Γ l M d b pc L (vI x :: S) h K := by
  subst hx
  exact aw_if_eq dg ht kt kf
theorem ax_icmp_ne {x y x' y' : Int} {off : Int} {tgt : Nat} (dg : decode M.2.1 pc = .ok (.if_icmp .ne off, 3)) (ht : (pc : Int) + off = (tgt : Int)) (hx : wr x = x') (hy : wr y = y') (kt : ¬ x' = y' → AW Γ l M d b tgt L S h K) (kf : ¬ (¬ x' = y') → AW Γ l M d b (pc + 3) L S h K) : AW Γ l M d b pc L (vI y :: vI x :: S) h K := by
  subst hx hy
  exact aw_icmp_ne dg ht kt kf
theorem ax_if_ne {x x' : Int} {off : Int} {tgt : Nat} (dg : decode M.2.1 pc = .ok (.ifCond .ne off, 3)) (ht : (pc : Int) + off = (tgt : Int)) (hx : wr x = x') (kt : ¬ x' = 0 → AW Γ l M d b tgt L S h K) (kf : ¬ (¬ x' = 0) → AW Γ l M d b (pc + 3) L S h K) : AW Γ l M d b pc L (vI x :: S) h K := by
  subst hx
  exact aw_if_ne dg ht kt kf
theorem ax_icmp_lt {x y x' y' : Int} {off : Int} {tgt : Nat} (dg : decode M.2.1 pc = .ok (.if_icmp .lt off, 3)) (ht : (pc : Int) + off = (tgt : Int)) (hx : wr x = x') (hy : wr y = y') (kt : x' < y' → AW Γ l M d b tgt L S h K) (kf : ¬ (x' < y') → AW Γ l M d b (pc + 3) L S h K) : AW Γ l M d b pc L (vI y :: vI x :: S) h K := by
  subst hx hy
  exact aw_icmp_lt dg ht kt kf
theorem ax_if_lt {x x' : Int} {off : Int} {tgt : Nat} (dg : decode M.2.1 pc = .ok (.ifCond .lt off, 3)) (ht : (pc : Int) + off = (tgt : Int)) (hx : wr x = x') (kt : x' < 0 → AW Γ l M d b tgt L S h K) (kf : ¬ (x' < 0) → AW Γ l M d b (pc + 3) L S h K) : AW Γ l M d b pc L (vI x :: S) h K := by
  subst hx
  exact aw_if_lt dg ht kt kf
theorem ax_icmp_ge {x y x' y' : Int} {off : Int} {tgt : Nat} (dg : decode M.2.1 pc = .ok (.if_icmp .ge off, 3)) (ht : (pc : Int) + off = (tgt : Int)) (hx : wr x = x') (hy : wr y = y') (kt : y' ≤ x' → AW Γ l M d b tgt L S h K) (kf : ¬ (y' ≤ x') → AW Γ l M d b (pc + 3) L S h K) : AW Γ l M d b pc L (vI y :: vI x :: S) h K := by
  subst hx hy
  exact aw_icmp_ge dg ht kt kf
theorem ax_if_ge {x x' : Int} {off : Int} {tgt : Nat} (dg : decode M.2.1 pc = .ok (.ifCond .ge off, 3)) (ht : (pc : Int) + off = (tgt : Int)) (hx : wr x = x') (kt : 0 ≤ x' → AW Γ l M d b tgt L S h K) (kf : ¬ (0 ≤ x') → AW Γ l M d b (pc + 3) L S h K) : AW Γ l M d b pc L (vI x :: S) h K := by
  subst hx
  exact aw_if_ge dg ht kt kf
theorem ax_icmp_gt {x y x' y' : Int} {off : Int} {tgt : Nat} (dg : decode M.2.1 pc = .ok (.if_icmp .gt off, 3)) (ht : (pc : Int) + off = (tgt : Int)) (hx : wr x = x') (hy : wr y = y') (kt : y' < x' → AW Γ l M d b tgt L S h K) (kf : ¬ (y' < x') → AW Γ l M d b (pc + 3) L S h K) : AW Γ l M d b pc L (vI y :: vI x :: S) h K := by
  subst hx hy
  exact aw_icmp_gt dg ht kt kf
theorem ax_if_gt {x x' : Int} {off : Int} {tgt : Nat} (dg : decode M.2.1 pc = .ok (.ifCond .gt off, 3)) (ht : (pc : Int) + off = (tgt : Int)) (hx : wr x = x') (kt : 0 < x' → AW Γ l M d b tgt L S h K) (kf : ¬ (0 < x') → AW Γ l M d b (pc + 3) L S h K) : AW Γ l M d b pc L (vI x :: S) h K := by
  subst hx
  exact aw_if_gt dg ht kt kf
theorem ax_icmp_le {x y x' y' : Int} {off : Int} {tgt : Nat} (dg : decode M.2.1 pc = .ok (.if_icmp .le off, 3)) (ht : (pc : Int) + off = (tgt : Int)) (hx : wr x = x') (hy : wr y = y') (kt : x' ≤ y' → AW Γ l M d b tgt L S h K) (kf : ¬ (x' ≤ y') → AW Γ l M d b (pc + 3) L S h K) : AW Γ l M d b pc L (vI y :: vI x :: S) h K := by
  subst hx hy
  exact aw_icmp_le dg ht kt kf
theorem ax_if_le {x x' : Int} {off : Int} {tgt : Nat} (dg : decode M.2.1 pc = .ok (.ifCond .le off, 3)) (ht : (pc : Int) + off = (tgt : Int)) (hx : wr x = x') (kt : x' ≤ 0 → AW Γ l M d b tgt L S h K) (kf : ¬ (x' ≤ 0) → AW Γ l M d b (pc + 3) L S h K) : AW Γ l M d b pc L (vI x :: S) h K := by
  subst hx
  exact aw_if_le dg ht kt kf
theorem ax_iald {t j i : Int} {n : Nat} (dg : decode M.2.1 pc = .ok (.iaload, 1)) (ha : isA h t 0 n) (hj : wr j = i) (h0 : 0 ≤ i ∧ i < n) (kk : AW Γ l M d b (pc + 1) L (vI (h.1 t i) :: S) h K) : AW Γ l M d b pc L (vI j :: vR t :: S) h K := by
  subst hj
  exact aw_iald dg ha h0.1 h0.2 kk
theorem ax_bald {t j i : Int} {n : Nat} (dg : decode M.2.1 pc = .ok (.baload, 1)) (ha : isA h t 1 n) (hj : wr j = i) (h0 : 0 ≤ i ∧ i < n) (kk : AW Γ l M d b (pc + 1) L (vI (h.1 t i) :: S) h K) : AW Γ l M d b pc L (vI j :: vR t :: S) h K := by
  subst hj
  exact aw_bald dg ha h0.1 h0.2 kk
theorem ax_zald {t j i : Int} {n : Nat} (dg : decode M.2.1 pc = .ok (.baload, 1)) (ha : isA h t 2 n) (hj : wr j = i) (h0 : 0 ≤ i ∧ i < n) (kk : AW Γ l M d b (pc + 1) L (vI (h.1 t i) :: S) h K) : AW Γ l M d b pc L (vI j :: vR t :: S) h K := by
  subst hj
  exact aw_zald dg ha h0.1 h0.2 kk
theorem ax_iast {t j i x : Int} {n : Nat} (dg : decode M.2.1 pc = .ok (.iastore, 1)) (ha : isA h t 0 n) (hj : wr j = i) (h0 : 0 ≤ i ∧ i < n) (kk : AW Γ l M d b (pc + 1) L S (upd2 h.1 t i x, h.2) K) : AW Γ l M d b pc L (vI x :: vI j :: vR t :: S) h K := by
  subst hj
  exact aw_iast dg ha h0.1 h0.2 kk
theorem ax_bast {t j i x : Int} {n : Nat} (dg : decode M.2.1 pc = .ok (.bastore, 1)) (ha : isA h t 1 n) (hj : wr j = i) (h0 : 0 ≤ i ∧ i < n) (kk : AW Γ l M d b (pc + 1) L S (upd2 h.1 t i (iB x), h.2) K) : AW Γ l M d b pc L (vI x :: vI j :: vR t :: S) h K := by
  subst hj
  exact aw_bast dg ha h0.1 h0.2 kk
theorem ax_zast {t j i x : Int} {n : Nat} (dg : decode M.2.1 pc = .ok (.bastore, 1)) (ha : isA h t 2 n) (hj : wr j = i) (h0 : 0 ≤ i ∧ i < n) (hx1 : wr x = 0 ∨ wr x = 1) (kk : AW Γ l M d b (pc + 1) L S (upd2 h.1 t i x, h.2) K) : AW Γ l M d b pc L (vI x :: vI j :: vR t :: S) h K := by
  subst hj
  exact aw_zast dg ha h0.1 h0.2 (nar_z hx1) kk
theorem ax_tsw {dflt lo hi : Int} {offs : Array Int} {len : Nat} {x : Int} (tgs : List Nat) (td : Nat) (dg : decode M.2.1 pc = .ok (.tableswitch dflt lo hi offs, len)) (hd : (pc : Int) + dflt = (td : Int)) (hlo : hi = lo + tgs.length - 1) (h1 : 1 ≤ tgs.length) (ho : offs.toList.map (fun o => (pc : Int) + o) = tgs.map (fun t : Nat => (t : Int)))
    (kin : ∀ i : Nat, i < tgs.length → wr x = lo + i → AW Γ l M d b (tgs.getD i 0) L S h K) (kout : wr x < lo ∨ hi < wr x → AW Γ l M d b td L S h K) : AW Γ l M d b pc L (vI x :: S) h K := by
  refine aw_tableswitch (fun i => tgs.getD i 0) td dg hd (by omega) (fun i hi2 => ?_) (fun i hi2 hx => kin i (by omega) hx) kout
  have hi3 : i < tgs.length := by omega
  have e := congrArg (fun l : List Int => l[i]?) ho
  simp only [List.getElem?_map, List.getElem?_eq_getElem hi3, Option.map_some, Array.getElem?_toList] at e
  cases hz : offs[i]? with
  | none => rw [hz] at e; cases e
  | some o =>
    rw [hz] at e
    refine ⟨o, rfl, ?_⟩
    simp only [Option.map_some, Option.some.injEq] at e
    rw [e, List.getD_eq_getElem?_getD, List.getElem?_eq_getElem hi3]
    rfl
end AMP
