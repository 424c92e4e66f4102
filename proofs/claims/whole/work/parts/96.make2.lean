/-! MAKING, part 2: Object's constructor, constructors of our own, fields that take their references -/
section AMN9
variable {Γ : Cfg} {l : Launch} {M : MT} {d b pc : Nat} {L S : List AV} {h : HP} {K : Ou → HP → Prop} {n : Nat} {q r : List (Int × Int × Int)}
theorem ow_code : Cond.code objectInit object_method_1_code 1 none ∈ gw := tb_mem 37 (by decide +kernel) (by decide +kernel)
theorem ow_im : Cond.instanceMethod objectInit ∈ gw := tb_mem 36 (by decide +kernel) (by decide +kernel)
theorem aw_objI {idx : Nat} {t : Int} (ht : 1 ≤ t) (hw : Cond.methodLink M.1 idx objectInit ∈ gw) (ho : ∀ v ∈ S, oneSlot v) (hs8 : S.length ≤ 8) (dg : decode M.2.1 pc = .ok (.invokespecial idx, 3)) (k : AW Γ l M d b (pc + 3) L S h K) : AW Γ l M d b pc L (vR t :: S) h K := by
  intro p e R s m args below meth c H locs cells slots mc ms ls C0 hls hx
  have k1 := k p e R s m args below meth c H locs cells slots mc ms ls C0 hls hx
  obtain ⟨hx0, hb, hml, hown, hts, hlk, hret, hst, hS, hv, hR, hf, hlo, hc1, hc2, hc3, hc4⟩ := C0
  have hct : conc Γ (vR t) = .ref (ad Γ t) := by
    show va_rf (rf Γ t) = _
    rw [rf_ad ht]
    rfl
  have hsum := cat_sum (Γ := Γ) S ho
  rw [List.map_cons, hct]
  refine W.objInit hx0 hb hown (hts _ hw) (hts _ ow_im) (hts _ ow_code) rfl (hls.1.trans hml.symm) rfl dg (by omega) (by have hm : (F0 m pc ls (Value.ref (ad Γ t) :: List.map (conc Γ) S)).monitorRoom = 0 := rfl; omega) ?_
  exact k1
/-- a constructor of our own -/
theorem aw_callI {y : MethodName} {M2 : MT} {as S0 : List AV} {idx n9 d2 b2 b3 : Nat} {t : Int} (ht1 : 1 ≤ t) (w : callW M idx y M2 n9) (wl9 : Cond.methodLink M.1 idx y ∈ gw) (win : Cond.instanceMethod y ∈ gw) (hy1 : y.name = "<init>") (hr2 : M2.2.2.2.1 = none) (dg : decode M.2.1 pc = .ok (.invokespecial idx, 3)) (ht : M.2.2.2.2.2 = []) (hd : d2 + 1 ≤ d) (hb : b2 + b3 ≤ b) (hn : as.length = n9) (hS0 : S0 = as.reverse ++ vR t :: S) (ho : ∀ v ∈ S, oneSlot v) (hs8 : S.length ≤ 8)
    (k : Ct Γ l d2 b2 y M2 (vR t :: as) h (aft Γ l M d b3 (pc + 3) L S K)) : AW Γ l M d b pc L S0 h K := by
  intro p e R s m args below meth c H locs cells slots mc ms ls C0 hls hx
  obtain ⟨hx0, hb9, hml, hown, hts, hlk, hret, hst, hS, hv, hR, hf, hlo, hc1, hc2, hc3, hc4⟩ := id C0
  refine aw_ran (as := (Value.ref (ad Γ t) :: as.map (conc Γ)).toArray) (S := S) C0 hls hx ht hb ?_
  have hct : conc Γ (vR t) = .ref (ad Γ t) := by
    show va_rf (rf Γ t) = _
    rw [rf_ad ht1]
    rfl
  have hpc := PcG_at (as := vR t :: as) C0
  rw [List.map_cons, hct] at hpc
  obtain ⟨a1, a2, a3, a4, a5, a6⟩ := M2
  have hr2' : a4 = none := hr2
  subst hr2'
  refine vx_runI (b := ad Γ t) (Ts := gw) (nL := M.2.2.1) (own := M.1) (bytes := a2) (maxL := a3) (n := n9) (index := idx) (As := as.map (conc Γ)) ⟨hx0, hb9, hml, hown, hts⟩ (k hst) ⟨⟨rfl, rfl, ?_, ?_, pay_gw hts w.1, List.mem_cons_self, hts _ w.1, hts _ w.2.1, w.2.2.1, callW.hlen w, hts _ wl9⟩, hy1, hts _ win⟩ ⟨PcG_blind (vR t :: as), hpc⟩ rfl ?_ hls.1 ?_ ?_ dg ⟨by omega, by omega⟩
  · show d2 + 8 + 1 ≤ R.frames
    omega
  · have h40 : a3 ≤ 40 := w.2.2.2.2
    show 8 + (a3 + 11) + (60 * d2 + 200) ≤ R.locals
    omega
  · rw [List.length_map]
    exact hn
  · show S0.map (conc Γ) = _
    rw [hS0, List.map_append, List.map_reverse, List.map_cons, hct]
  · have := cat_sum (Γ := Γ) S ho
    show 2 * 0 + _ ≤ 8
    omega
/-- a private constructor of a nest mate -/
theorem aw_callIN {host : String} {y : MethodName} {M2 : MT} {as S0 : List AV} {idx n9 d2 b2 b3 : Nat} {t : Int} (ht1 : 1 ≤ t) (w : callW M idx y M2 n9) (wl9 : Cond.methodLinkNest M.1 idx y host ∈ nw) (win : Cond.instanceMethod y ∈ gw) (hy1 : y.name = "<init>") (hr2 : M2.2.2.2.1 = none) (dg : decode M.2.1 pc = .ok (.invokespecial idx, 3)) (ht : M.2.2.2.2.2 = []) (hd : d2 + 1 ≤ d) (hb : b2 + b3 ≤ b) (hn : as.length = n9) (hS0 : S0 = as.reverse ++ vR t :: S) (ho : ∀ v ∈ S, oneSlot v) (hs8 : S.length ≤ 8)
    (k : Ct Γ l d2 b2 y M2 (vR t :: as) h (aft Γ l M d b3 (pc + 3) L S K)) : AW Γ l M d b pc L S0 h K := by
  intro p e R s m args below meth c H locs cells slots mc ms ls C0 hls hx
  obtain ⟨hx0, hb9, hml, hown, hts, hlk, hret, hst, hS, hv, hR, hf, hlo, hc1, hc2, hc3, hc4⟩ := id C0
  refine aw_ran (as := (Value.ref (ad Γ t) :: as.map (conc Γ)).toArray) (S := S) C0 hls hx ht hb ?_
  have hct : conc Γ (vR t) = .ref (ad Γ t) := by
    show va_rf (rf Γ t) = _
    rw [rf_ad ht1]
    rfl
  have hpc := PcG_at (as := vR t :: as) C0
  rw [List.map_cons, hct] at hpc
  obtain ⟨a1, a2, a3, a4, a5, a6⟩ := M2
  have hr2' : a4 = none := hr2
  subst hr2'
  refine vx_runIN (host := host) (b := ad Γ t) (Ts := gw) (nL := M.2.2.1) (own := M.1) (bytes := a2) (maxL := a3) (n := n9) (index := idx) (As := as.map (conc Γ)) ⟨hx0, hb9, hml, hown, hts⟩ (k hst) ⟨⟨⟨rfl, rfl, ?_, ?_, pay_gw hts w.1, List.mem_cons_self⟩, hts _ w.1, hts _ w.2.1, w.2.2.1, callW.hlen w, va_Nw.use rfl (hS.2.1.1 _ wl9)⟩, hy1, hts _ win⟩ ⟨PcG_blind (vR t :: as), hpc⟩ rfl ?_ hls.1 ?_ ?_ dg ⟨by omega, by omega⟩
  · show d2 + 8 + 1 ≤ R.frames
    omega
  · have h40 : a3 ≤ 40 := w.2.2.2.2
    show 8 + (a3 + 11) + (60 * d2 + 200) ≤ R.locals
    omega
  · rw [List.length_map]
    exact hn
  · show S0.map (conc Γ) = _
    rw [hS0, List.map_append, List.map_reverse, List.map_cons, hct]
  · have := cat_sum (Γ := Γ) S ho
    show 2 * 0 + _ ≤ 8
    omega
theorem HI.lit {t : Int} (h : decide (t ∈ ([8, 17, 26, 45, 54, 63, 72, 81, 90, 99, 108, 117, 126, 135, 144] : List Int)) = true) : HI t := show t ∈ ([8, 17, 26, 45, 54, 63, 72, 81, 90, 99, 108, 117, 126, 135, 144] : List Int) from of_decide_eq_true h
theorem LA.lit {t : Int} (h : decide (t ∈ ([35, 38, 41] : List Int)) = true) : LA t := show t ∈ ([35, 38, 41] : List Int) from of_decide_eq_true h
def refT : FieldType → Bool
  | .object _ => true
  | .array _ => true
  | _ => false
theorem nar_rf' (Γ : Cfg) (x : Int) {ty : FieldType} (h : refT ty = true) : narrow ty (conc Γ (vR x)) = conc Γ (vR x) := by
  cases ty with
  | object n => exact nar_rf Γ x
  | array c =>
    show narrow _ (va_rf _) = va_rf _
    cases rf Γ x <;> rfl
  | _ => cases h
theorem fits_rf' (Γ : Cfg) (x : Int) {ty : FieldType} (h : refT ty = true) : fits ty (conc Γ (vR x)) = true := by
  cases ty with
  | object n => exact fits_rf Γ x
  | array c =>
    show fits _ (va_rf _) = true
    cases rf Γ x <;> rfl
  | _ => cases h
/-- a final reference takes its value -/
theorem aw_putR {C : String} {T : u_T} {N ci idx k : Nat} {t x j : Int} (ty : Nat → FieldType) (w : LW q n r) (hj : (k : Int) = j) (dg : decode M.2.1 pc = .ok (.putfield idx, 3)) (hc : vwCl[ci]? = some (C, T, N)) (hk : k < N) (hd : (T k).1 = C) (hM : M.1 = C) (hI : M.2.2.2.2.1 = "<init>")
    (hl : Cond.fieldLink C idx C (T k).2.1 (T k).2.2.1 ∈ gw) (hin : ∀ w ∈ u_ws C T N, w ∈ gw) (hty : ∀ k, k < N → parseFieldDescriptor (T k).2.2.1 = some (ty k)) (hnm : ∀ a, a < N → ∀ b, b < N → a ≠ b → (T a).2.1 ≠ (T b).2.1) (hfin : (T k).2.2.2 = true)
    (hrt : refT (ty k) = true) (hq : (flT ci)[k]? = some (1, j)) (hs : shp t = (10 + ci, 0)) (htn : t ≤ (n : Int)) (kk : LW q n ((t, j, x) :: r) → AW Γ l M d b (pc + 3) L S (mkw q n ((t, j, x) :: r)) K) : AW Γ l M d b pc L (vR x :: vR t :: S) (mkw q n r) K := by
  subst hj
  exact aw_putF0 (h' := mkw q n ((t, (k : Int), x) :: r)) ty dg hc hk hd hM (by rw [hM]; exact hl) hin hty hnm hfin (nar_rf' Γ x hrt) (fits_rf' Γ x hrt) hq ⟨hs, htn⟩ (fun t' hne => entS_updr (h := mkw q n r) hne) rfl (flv_updr (h := mkw q n r) hq rfl) (kk (w.pr htn)) hI
/-- a reference that is set once in the making, its field not final -/
theorem aw_putRn {C : String} {T : u_T} {N ci idx k : Nat} {t x j : Int} (ty : Nat → FieldType) (w : LW q n r) (hj : (k : Int) = j) (dg : decode M.2.1 pc = .ok (.putfield idx, 3)) (hc : vwCl[ci]? = some (C, T, N)) (hk : k < N) (hd : (T k).1 = C) 
    (hl : ∀ {s : State} {args : Array Value} {m : MethodId}, s.vm.findClass M.1 = some m.cls → (∀ w ∈ gw, w.before args s = true) → (∀ w ∈ nw, va_Nw w s) → (Cond.fieldLink M.1 idx C (T k).2.1 (T k).2.2.1).before args s = true ∨ ∃ host, (Cond.fieldLinkNest M.1 idx C (T k).2.1 (T k).2.2.1 host).before args s = true)
    (hin : ∀ w ∈ u_ws C T N, w ∈ gw) (hty : ∀ k, k < N → parseFieldDescriptor (T k).2.2.1 = some (ty k)) (hnm : ∀ a, a < N → ∀ b, b < N → a ≠ b → (T a).2.1 ≠ (T b).2.1) (hfin : (T k).2.2.2 = false)
    (hrt : refT (ty k) = true) (hq : (flT ci)[k]? = some (1, j)) (hs : shp t = (10 + ci, 0)) (htn : t ≤ (n : Int)) (kk : LW q n ((t, j, x) :: r) → AW Γ l M d b (pc + 3) L S (mkw q n ((t, j, x) :: r)) K) : AW Γ l M d b pc L (vR x :: vR t :: S) (mkw q n r) K := by
  subst hj
  exact aw_putf0 (h' := mkw q n ((t, (k : Int), x) :: r)) ty dg hc hk hd hl hin hty hnm hfin (nar_rf' Γ x hrt) (fits_rf' Γ x hrt) hq ⟨hs, htn⟩ (fun t' hne => entS_updr (h := mkw q n r) hne) rfl (flv_updr (h := mkw q n r) hq rfl) (kk (w.pr htn))
/-- hills come into the row of the acts -/
theorem aw_aastH {i t : Int} (w : LW q n r) (hn : n < 190) (h44 : 44 ≤ n) (dg : decode M.2.1 pc = .ok (.aastore, 1)) (hi : 0 ≤ i ∧ i < 12) (hs : shp t = (12, 0)) (htn : t ≤ (n : Int)) (kk : LW q n ((44, i, t) :: r) → AW Γ l M d b (pc + 1) L S (mkw q n ((44, i, t) :: r)) K) : AW Γ l M d b pc L (vR t :: vI i :: vR 44 :: S) (mkw q n r) K := by
  intro p e R s m args below meth c H locs cells slots mc ms ls C0 hls hx
  have t12 := shp_lt (t := t) (by rw [hs]; decide)
  obtain ⟨q0, hq0⟩ := wl_get (Γ := Γ) (h := mkw q n r) (t := 44) (by decide) (by decide) (by show (44 : Int) ≤ (n : Int); omega)
  obtain ⟨q1, hq1⟩ := wl_get (Γ := Γ) (h := mkw q n r) (t := t) t12.1 t12.2 htn
  rw [ent_obj (ci := 2) (by decide) hs] at hq1
  obtain ⟨hx0, hb, hml, hown, hts, hlk, hret, hst, hS, hv, hR, hrest⟩ := id C0
  have hwi : wr i = i := wr_id (by omega) (by omega)
  have hin : vp_in (Int32.ofInt i) 12 := by
    have := vp_in_wr (j := i) (n := 12) (by rw [hwi]; exact hi.1) (by rw [hwi]; omega)
    exact this
  have e44 : ent Γ (mkw q n r) 44 = .inl (Γ.2.2.2.1 4, 12, .inr (.inr (.inr (.inr (fun j : Nat => rf Γ (lkR r 44 j)))))) := rfl
  rw [e44] at hq0
  have hlt : (Int32.ofInt i).toNatClampNeg < 12 := Nat.not_le.mp fun q => hin (Or.inr q)
  have h0 : ¬ Int32.ofInt i < 0 := fun q => hin (Or.inl q)
  obtain ⟨r', hr', cellV, g1, g2, g3, -⟩ := hR.1 q1 _ hq1
  have hcls := (hS.1.1 2 _ hr').2
  have hr2 : r' = (RX2, TX2, 15) := Option.some.inj (hr'.symm.trans rfl)
  subst hr2
  obtain ⟨kA, comp, k1, k2, k3, -⟩ := (hS.1.2 4 (Γ.2.2.2.1 4, .object "HalfOaths$Hills") rfl).2
  have hcomp : comp = Γ.2.2.1.1 2 := Option.some.inj (k3.symm.trans hcls.1)
  subst hcomp
  obtain ⟨kC, hkC, -⟩ := hcls.2
  have hct : conc Γ (vR t) = .ref (ad Γ t) := by
    show va_rf (rf Γ t) = _
    rw [rf_ad t12.1]
    rfl
  show W p l e R s m args below meth c H locs cells slots _ (F0 m pc ls (conc Γ (vR t) :: .int (Int32.ofInt i) :: .ref (ad Γ 44) :: S.map (conc Γ)))
  rw [hct]
  refine W.aast hx0 hb (hR.1 q0 _ hq0) (fun q h => by cases h) (fun h => by cases h) k1 k2 rfl hkC ⟨h0, by show _ < (arrV _ _ _).slots.size; rw [arrV_size]; exact hlt⟩ g1 (fun q h => by rw [g3] at h; cases h) (by rw [g2]; exact hkC) (by rw [g2]; exact va_assign hcls) rfl rfl dg fun H1 e1 z oq => ?_
  refine az_ctx (h' := mkw q n ((44, i, t) :: r)) (t := 44) C0 hls hx (by decide) (by decide) (by show (44 : Int) ≤ (n : Int); omega) z oq ?_ rfl (fun t' hne => entS_updr (h := mkw q n r) hne) (kk (w.pr (by omega)))
  show H1[ad Γ 44]? = some (vp_cell (Γ.2.2.2.1 4) (12, .inr (.inr (.inr (.inr (fun j : Nat => rf Γ (upd2 (lkR r) 44 i t 44 j)))))))
  rw [e1]
  have hcl := clamp_wr (j := i) (by rw [hwi]; exact hi.1)
  rw [hwi] at hcl
  rw [vp_cell_q, vp_cell_q, arrV_store]
  congr 2
  funext j
  by_cases hq : j = (Int32.ofInt i).toNatClampNeg
  · have e9 : upd2 (lkR r) 44 i t 44 (j : Int) = t := if_pos ⟨by omega, rfl⟩
    rw [e9, rf_ad t12.1]
    simp [updV, va_rf, hq]
  · have e9 : upd2 (lkR r) 44 i t 44 (j : Int) = lkR r 44 j := if_neg (fun e => hq (by omega))
    rw [e9]
    simp [updV, hq]
end AMN9
