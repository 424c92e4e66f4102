/-! RULES OF AW: fields and rows -/
theorem shp_lt {t : Int} (h : (shp t).1 ≠ 99) : 1 ≤ t ∧ t ≤ 190 := by
  unfold shp at h
  by_cases q : t < 1
  · rw [if_pos q] at h
    exact absurd rfl h
  · rw [if_neg q] at h
    refine ⟨by omega, ?_⟩
    by_cases q2 : t ≤ 190
    · exact q2
    · have hl : shT.length = 190 := by decide +kernel
      rw [List.getD_eq_getElem?_getD, List.getElem?_eq_none (by omega)] at h
      exact absurd rfl h
theorem flT_ix0 : ∀ ci : Fin 11, ∀ j : Fin 40, ((flT ci)[(j : Nat)]?).all (fun q => decide (q.2 = ((j : Nat) : Int))) = true := by decide +kernel
theorem flT_len : ∀ ci : Fin 11, (flT ci).length ≤ 40 := by decide +kernel
theorem flT_ix {ci j : Nat} {q : Nat × Int} (h : (flT ci)[j]? = some q) : q.2 = (j : Int) := by
  by_cases h1 : ci < 11
  · have hj : j < (flT ci).length := (List.getElem?_eq_some_iff.mp h).1
    have h2 := flT_len ⟨ci, h1⟩
    have h4 : (flT ci).length ≤ 40 := h2
    have h3 := flT_ix0 ⟨ci, h1⟩ ⟨j, by omega⟩
    simp only [h, Option.all_some, decide_eq_true_eq] at h3
    exact h3
  · have : flT ci = [] := by
      match ci, h1 with
      | 0, h1 | 1, h1 | 2, h1 | 3, h1 | 4, h1 | 5, h1 | 6, h1 | 7, h1 | 8, h1 | 9, h1 | 10, h1 => exact absurd (by decide) h1
      | n + 11, _ => rfl
    rw [this] at h
    simp at h
theorem ad_lo (Γ : Cfg) {t : Int} (h : t ≤ 190) : ad Γ t = Γ.1 + (t - 1).toNat := by
  unfold ad
  rw [if_pos (by omega)]
theorem idOf_ad (Γ : Cfg) {t : Int} (h0 : 1 ≤ t) (h : t ≤ 190) : idOf Γ (ad Γ t) = t := by
  rw [ad_lo Γ h]
  unfold idOf
  omega
theorem wl_get {Γ : Cfg} {h : HP} {t : Int} (h0 : 1 ≤ t) (h1 : t ≤ 190) (hn : t ≤ h.2.2) : ∃ q0 : Nat, (wl Γ h)[q0]? = some (ad Γ t, ent Γ h t) := by
  have hm : ad Γ t ∈ List.range' Γ.1 h.2.2 := by
    rw [ad_lo Γ h1, List.mem_range'_1]
    omega
  obtain ⟨k, hk⟩ := va_pl_get (X := []) (f := fun a => ent Γ h (idOf Γ a)) hm
  refine ⟨k, ?_⟩
  rw [idOf_ad Γ h0 h1] at hk
  exact hk
theorem wl_set {Γ : Cfg} {h h' : HP} {t : Int} {q0 : Nat} (h0 : 1 ≤ t) (h1 : t ≤ 190) (hn : t ≤ h.2.2) (hq : (wl Γ h)[q0]? = some (ad Γ t, ent Γ h t)) (e2 : h'.2.2 = h.2.2) (he : ∀ t' : Int, t' ≠ t → ent Γ h' t' = ent Γ h t') :
    (wl Γ h).set q0 (ad Γ t, ent Γ h' t) = wl Γ h' := by
  have hm : ad Γ t ∈ List.range' Γ.1 h.2.2 := by
    rw [ad_lo Γ h1, List.mem_range'_1]
    omega
  have hq2 : ([] ++ va_pl (List.range' Γ.1 h.2.2) (fun a => ent Γ h (idOf Γ a)))[q0]? = some (ad Γ t, (fun a => ent Γ h (idOf Γ a)) (ad Γ t)) := by
    show (wl Γ h)[q0]? = some (ad Γ t, ent Γ h (idOf Γ (ad Γ t)))
    rw [idOf_ad Γ h0 h1]
    exact hq
  have := va_pl_set (A := own0 Γ) (X := []) (e := ent Γ h' t) (wl_D Γ h) hm hq2
  refine Eq.trans this ?_
  show va_pl _ _ = va_pl _ _
  rw [e2]
  unfold va_pl
  apply List.map_congr_left
  intro a ha
  have hal := List.mem_range'_1.mp ha
  by_cases q : a = ad Γ t
  · subst q
    show (ad Γ t, va_up _ _ _ _) = (ad Γ t, ent Γ h' (idOf Γ (ad Γ t)))
    rw [va_up_self, idOf_ad Γ h0 h1]
  · show (a, va_up _ _ _ _) = (a, ent Γ h' (idOf Γ a))
    rw [va_up_ne _ _ q, he]
    intro e
    apply q
    rw [ad_lo Γ h1, ← e]
    unfold idOf
    omega
theorem entS_upd {Γ : Cfg} {h : HP} {t j v : Int} {t' : Int} (q : t' ≠ t) : ent Γ (upd2 h.1 t j v, h.2) t' = ent Γ h t' := by
  have e : ∀ i : Int, upd2 h.1 t j v t' i = h.1 t' i := fun i => if_neg (fun e => q e.2)
  unfold ent entS flv fvl
  simp only [e]
theorem entS_updr {Γ : Cfg} {h : HP} {t j v : Int} {t' : Int} (q : t' ≠ t) : ent Γ (h.1, upd2 h.2.1 t j v, h.2.2) t' = ent Γ h t' := by
  have e : ∀ i : Int, upd2 h.2.1 t j v t' i = h.2.1 t' i := fun i => if_neg (fun e => q e.2)
  unfold ent entS flv fvl
  simp only [e]
/-- an object of a class there -/
def isO (h : HP) (t : Int) (ci : Nat) : Prop := shp t = (10 + ci, 0) ∧ t ≤ h.2.2
theorem ent_obj {Γ : Cfg} {h : HP} {t : Int} {ci : Nat} (hc : ci < 11) (hs : shp t = (10 + ci, 0)) : ent Γ h t = .inr (ci, flv Γ h t ci) := by
  unfold ent
  rw [hs]
  match ci, hc with
  | 0, _ | 1, _ | 2, _ | 3, _ | 4, _ | 5, _ | 6, _ | 7, _ | 8, _ | 9, _ | 10, _ => rfl
  | n + 11, h => exact absurd h (by omega)
theorem isO_lt {h : HP} {t : Int} {ci : Nat} (hc : ci < 11) (ho : isO h t ci) : 1 ≤ t ∧ t ≤ 190 := shp_lt (by rw [ho.1]; simp only; omega)
theorem rf_ad {Γ : Cfg} {t : Int} (h0 : 1 ≤ t) : rf Γ t = some (ad Γ t) := if_neg (by omega)
theorem vw_cl_lt {ci : Nat} {r : vw_C} (h : vwCl[ci]? = some r) : ci < 11 := (List.getElem?_eq_some_iff.mp h).1
def fav (h : HP) (t : Int) (q : Nat × Int) : AV := match q.1 with
  | 0 => vI (h.1 t q.2)
  | 1 => vR (h.2.1 t q.2)
  | _ => vR (h.1 t q.2)
theorem conc_fav {Γ : Cfg} {h : HP} {t : Int} {q : Nat × Int} : conc Γ (fav h t q) = fvl Γ h t q := by
  obtain ⟨k, i⟩ := q
  match k with
  | 0 => rfl
  | 1 => rfl
  | n + 2 => rfl
section AMH
variable {Γ : Cfg} {l : Launch} {M : MT} {d b pc : Nat} {L S : List AV} {h : HP} {K : Ou → HP → Prop}
theorem aw_getf0 {C : String} {T : u_T} {N ci idx k : Nat} {t : Int} {q : Nat × Int} (dg : decode M.2.1 pc = .ok (.getfield idx, 3)) (hc : vwCl[ci]? = some (C, T, N)) (hk : k < N) (hd : (T k).1 = C)
    (hl : ∀ {s : State} {args : Array Value} {m : MethodId}, s.vm.findClass M.1 = some m.cls → (∀ w ∈ gw, w.before args s = true) → (∀ w ∈ nw, va_Nw w s) → (Cond.fieldLink M.1 idx C (T k).2.1 (T k).2.2.1).before args s = true ∨ ∃ host, (Cond.fieldLinkNest M.1 idx C (T k).2.1 (T k).2.2.1 host).before args s = true)
    (hin : ∀ w ∈ u_ws C T N, w ∈ gw) (hq : (flT ci)[k]? = some q) (ho : isO h t ci) (kk : AW Γ l M d b (pc + 3) L (fav h t q :: S) h K) : AW Γ l M d b pc L (vR t :: S) h K := by
  intro p e R s m args below meth c H locs cells slots mc ms ls C0 hls hx
  have hci := vw_cl_lt hc
  obtain ⟨t1, t2⟩ := isO_lt hci ho
  obtain ⟨q0, hq0⟩ := wl_get (Γ := Γ) (h := h) t1 t2 ho.2
  rw [ent_obj hci ho.1] at hq0
  have k1 := kk p e R s m args below meth c H locs cells slots mc ms ls C0 hls hx
  obtain ⟨hx0, hb, hml, hown, hts, hlk, hret, hst, hS, hv, hR, hrest⟩ := C0
  have hvv : (flv Γ h t ci)[k]? = some (fvl Γ h t q) := by
    unfold flv
    rw [List.getElem?_map, hq]
    rfl
  rw [List.map_cons, conc_fav] at k1
  show W p l e R s m args below meth c H locs cells slots _ (F0 m pc ls (va_rf (rf Γ t) :: S.map (conc Γ)))
  rw [rf_ad t1]
  rcases hl hown hts hS.2.1.1 with h1 | ⟨host, h1⟩
  · exact va_get hx0 hb hts hin hown hS.1 hR.1 q0 hq0 hc k hk h1 (fun x h => by rw [hd] at h; exact h) hvv dg k1
  · exact va_getN hx0 hb hts hin hown hS.1 hR.1 q0 hq0 hc k hk h1 (fun x h => by rw [hd] at h; exact h) hvv dg k1
/-- what a store leaves: the world with one entry anew -/
theorem az_ctx {p : Program} {e : Env} {R : Room} {s : State} {m : MethodId} {args : Array Value} {below : List Frame} {meth : Method} {c : Code} {H H1 : Heap} {locs : List Loc} {cells slots mc ms kk : Nat} {ls : Array Slot} {t : Int} {h' : HP} {pc1 : Nat} {S1 : List AV}
    (C0 : Ctx Γ l M d b p R s m args meth c H locs cells slots mc ms h) (hls : lv_has ls M.2.2.1 (lvl Γ 0 L)) (hx : c.exceptionTable.toList = tableOf M.2.2.2.2.2) (t1 : 1 ≤ t) (t2 : t ≤ 190) (tn : t ≤ h.2.2)
    (hz : H1.size = H.size) (oq : ∀ q : Nat, q ≠ ad Γ t → H1[q]? = H[q]?) (hat : va_at Γ.2.2.1 vwCl (ad Γ t, ent Γ h' t) H1) (h2 : h'.2.2 = h.2.2) (he : ∀ t', t' ≠ t → ent Γ h' t' = ent Γ h t')
    (k : AW Γ l M d b pc1 L S1 h' K) : W p l e R s m args below meth c H1 (locs ++ [⟨ad Γ t, kk⟩]) cells slots (vx_MQ below (QcK Γ K) (XcK Γ K) args s mc ms (own0 Γ)) (F0 m pc1 ls (S1.map (conc Γ))) := by
  obtain ⟨q0, hq0⟩ := wl_get (Γ := Γ) (h := h) t1 t2 tn
  obtain ⟨hx0, hb, hml, hown, hts, hlk, hret, hst, hS, hv, hR, hrest⟩ := id C0
  have hA : own0 Γ (ad Γ t) := by
    show Γ.1 ≤ ad Γ t
    rw [ad_lo Γ t2]
    omega
  refine k p e R s m args below meth c H1 _ cells slots mc ms ls ⟨hx0, hb, hml, hown, hts, hlk, hret, hst, hS, hv.put hz oq hA, ⟨?_, ?_⟩, hrest⟩ hls hx
  · have := hR.1.set (wl_D Γ h) hq0 hat oq
    rw [wl_set (h' := h') t1 t2 tn hq0 h2 he] at this
    exact this
  · unfold szOK
    rw [h2, hz]
    exact hR.2
/-- a field takes a value -/
theorem aw_putf0 {C : String} {T : u_T} {N ci idx k : Nat} {t : Int} {q : Nat × Int} {v : AV} {h' : HP} (ty : Nat → FieldType) (dg : decode M.2.1 pc = .ok (.putfield idx, 3)) (hc : vwCl[ci]? = some (C, T, N)) (hk : k < N) (hd : (T k).1 = C)
    (hl : ∀ {s : State} {args : Array Value} {m : MethodId}, s.vm.findClass M.1 = some m.cls → (∀ w ∈ gw, w.before args s = true) → (∀ w ∈ nw, va_Nw w s) → (Cond.fieldLink M.1 idx C (T k).2.1 (T k).2.2.1).before args s = true ∨ ∃ host, (Cond.fieldLinkNest M.1 idx C (T k).2.1 (T k).2.2.1 host).before args s = true)
    (hin : ∀ w ∈ u_ws C T N, w ∈ gw) (hty : ∀ k, k < N → parseFieldDescriptor (T k).2.2.1 = some (ty k)) (hnm : ∀ a, a < N → ∀ b, b < N → a ≠ b → (T a).2.1 ≠ (T b).2.1) (hfin : (T k).2.2.2 = false)
    (hn : narrow (ty k) (conc Γ v) = conc Γ v) (hfit : fits (ty k) (conc Γ v) = true)
    (hq : (flT ci)[k]? = some q) (ho : isO h t ci) (he : ∀ t', t' ≠ t → ent Γ h' t' = ent Γ h t') (h2 : h'.2.2 = h.2.2) (hf : flv Γ h' t ci = (flv Γ h t ci).set k (conc Γ v)) (kk : AW Γ l M d b (pc + 3) L S h' K) : AW Γ l M d b pc L (v :: vR t :: S) h K := by
  intro p e R s m args below meth c H locs cells slots mc ms ls C0 hls hx
  have hci := vw_cl_lt hc
  obtain ⟨t1, t2⟩ := isO_lt hci ho
  obtain ⟨q0, hq0⟩ := wl_get (Γ := Γ) (h := h) t1 t2 ho.2
  rw [ent_obj hci ho.1] at hq0
  obtain ⟨hx0, hb, hml, hown, hts, hlk, hret, hst, hS, hv, hR, hrest⟩ := id C0
  have hkl : k < (flv Γ h t ci).length := by
    unfold flv
    rw [List.length_map]
    exact (List.getElem?_eq_some_iff.mp hq).1
  have hap := va_apart (own := M.1) hts hin ty hty hnm hS.1 hc
  obtain ⟨r, r1, cell, q1, q2, q3, q4⟩ := hR.1 q0 _ hq0
  have hr : r = (C, T, N) := Option.some.inj (r1.symm.trans hc)
  subst hr
  obtain ⟨hSl, hfc, kC, hkC, hkind⟩ := hS.1.1 ci _ hc
  obtain ⟨cf, kf, fi, f, hi, hsl⟩ := hSl k hk
  have hlay := hts _ (hin _ (u_in_lay hk))
  unfold u_lay at hlay
  rw [if_neg (by rw [hfin]; decide)] at hlay
  have hst2 := (u_facts hfc hkC (u_lays hts hin hk) hi).1
  have h6 := u_store hfc hkC hkind hlay hi (hty k hk) hn hfit
  show W p l e R s m args below meth c H locs cells slots _ (F0 m pc ls (conc Γ v :: va_rf (rf Γ t) :: S.map (conc Γ)))
  rw [rf_ad t1]
  have fin : ∀ H' : Heap, H'[ad Γ t]? = some (cell.setSlot f.slot (conc Γ v)) → H'.size = H.size → (∀ q, q ≠ ad Γ t → H'[q]? = H[q]?) → W p l e R s m args below meth c H' (locs ++ [⟨ad Γ t, f.slot⟩]) cells slots (vx_MQ below (QcK Γ K) (XcK Γ K) args s mc ms (own0 Γ)) (F0 m (pc + 3) ls (S.map (conc Γ))) := by
    intro H' e1 e2 e3
    refine az_ctx C0 hls hx t1 t2 ho.2 e2 e3 ?_ h2 he kk
    rw [ent_obj hci ho.1, hf]
    rw [hsl] at e1
    exact ⟨_, hc, t_OB.to (V := updV (vp_V (flv Γ h t ci)) k (conc Γ v)) ⟨_, e1, q2, q3, t_set q4 hap hk (conc Γ v)⟩ (fun j _ => vp_updV_set hkl (conc Γ v) j)⟩
  have hi2 : s.fieldFound? C (T k).2.1 (T k).2.2.1 = some (cf, kf, fi, f) := by
    have := hi
    simp only [hd] at this
    exact this
  rcases hl hown hts hS.2.1.1 with h1 | ⟨host, h1⟩
  · exact W.putK hx0 hb (f := f) ⟨hown, h1, ⟨_, _, _, hi2⟩, hst2⟩ (by rw [q2]; exact h6) q1 q3 (by rw [hsl]; exact k2_hasslot (q4 k hk)) rfl rfl dg fin
  · exact va_WputK hx0 hb (f := f) hown h1 hi2 hst2 (by rw [q2]; exact h6) q1 q3 (by rw [hsl]; exact k2_hasslot (q4 k hk)) rfl rfl dg fin
/-- a final field takes its value, in the making -/
theorem aw_putF0 {C : String} {T : u_T} {N ci idx k : Nat} {t : Int} {q : Nat × Int} {v : AV} {h' : HP} (ty : Nat → FieldType) (dg : decode M.2.1 pc = .ok (.putfield idx, 3)) (hc : vwCl[ci]? = some (C, T, N)) (hk : k < N) (hd : (T k).1 = C) (hM : M.1 = C)
    (hl : Cond.fieldLink M.1 idx C (T k).2.1 (T k).2.2.1 ∈ gw)
    (hin : ∀ w ∈ u_ws C T N, w ∈ gw) (hty : ∀ k, k < N → parseFieldDescriptor (T k).2.2.1 = some (ty k)) (hnm : ∀ a, a < N → ∀ b, b < N → a ≠ b → (T a).2.1 ≠ (T b).2.1) (hfin : (T k).2.2.2 = true)
    (hn : narrow (ty k) (conc Γ v) = conc Γ v) (hfit : fits (ty k) (conc Γ v) = true)
    (hq : (flT ci)[k]? = some q) (ho : isO h t ci) (he : ∀ t', t' ≠ t → ent Γ h' t' = ent Γ h t') (h2 : h'.2.2 = h.2.2) (hf : flv Γ h' t ci = (flv Γ h t ci).set k (conc Γ v)) (kk : AW Γ l M d b (pc + 3) L S h' K) (hI : M.2.2.2.2.1 = "<init>") : AW Γ l M d b pc L (v :: vR t :: S) h K := by
  intro p e R s m args below meth c H locs cells slots mc ms ls C0 hls hx
  have hci := vw_cl_lt hc
  obtain ⟨t1, t2⟩ := isO_lt hci ho
  obtain ⟨q0, hq0⟩ := wl_get (Γ := Γ) (h := h) t1 t2 ho.2
  rw [ent_obj hci ho.1] at hq0
  obtain ⟨hx0, hb, hml, hown, hts, hlk, hret, hst, hS, hv, hR, hrest⟩ := id C0
  have hkl : k < (flv Γ h t ci).length := by
    unfold flv
    rw [List.length_map]
    exact (List.getElem?_eq_some_iff.mp hq).1
  have hap := va_apart (own := M.1) hts hin ty hty hnm hS.1 hc
  obtain ⟨r, r1, cell, q1, q2, q3, q4⟩ := hR.1 q0 _ hq0
  have hr : r = (C, T, N) := Option.some.inj (r1.symm.trans hc)
  subst hr
  obtain ⟨hSl, hfc, kC, hkC, hkind⟩ := hS.1.1 ci _ hc
  obtain ⟨cf, kf, fi, f, hi, hsl⟩ := hSl k hk
  have hlay := hts _ (hin _ (u_in_lay hk))
  unfold u_lay at hlay
  rw [if_pos hfin] at hlay
  have hst2 := (u_facts hfc hkC (u_lays hts hin hk) hi).1
  have hcf : m.cls = cf := by
    obtain ⟨_, _, c', _, _, _, -, -, hf', -, -, -, hown2, -⟩ := Cond.laysFinal_spec hlay
    have e1 : c' = cf := by have := hi.symm.trans hf'; simp at this; exact this.1.symm
    rw [hd, ← hM] at hown2
    rw [← e1]; exact Option.some.inj (hown.symm.trans hown2)
  have h6 := u_fits hfc hkC hkind (Or.inr hlay) hi (hty k hk) hn hfit
  show W p l e R s m args below meth c H locs cells slots _ (F0 m pc ls (conc Γ v :: va_rf (rf Γ t) :: S.map (conc Γ)))
  rw [rf_ad t1]
  have hi2 : s.fieldFound? C (T k).2.1 (T k).2.2.1 = some (cf, kf, fi, f) := by
    have := hi
    simp only [hd] at this
    exact this
  refine W.putFinK hx0 hb hown (hts _ hl) hi2 hst2 hcf (hret.2.trans hI) (by rw [q2]; exact h6) q1 q3 (by rw [hsl]; exact k2_hasslot (q4 k hk)) rfl rfl dg fun H' e1 e2 e3 => ?_
  refine az_ctx C0 hls hx t1 t2 ho.2 e2 e3 ?_ h2 he kk
  rw [ent_obj hci ho.1, hf]
  rw [hsl] at e1
  exact ⟨_, hc, t_OB.to (V := updV (vp_V (flv Γ h t ci)) k (conc Γ v)) ⟨_, e1, q2, q3, t_set q4 hap hk (conc Γ v)⟩ (fun j _ => vp_updV_set hkl (conc Γ v) j)⟩
theorem flv_upd {t : Int} {ci k : Nat} {x : Int} {q : Nat × Int} (hq : (flT ci)[k]? = some q) (h0 : q.1 = 0 ∨ q.1 = 2) :
    flv Γ (upd2 h.1 t k x, h.2) t ci = (flv Γ h t ci).set k (if q.1 = 0 then .int (Int32.ofInt x) else va_rf (rf Γ x)) := by
  unfold flv
  apply List.ext_getElem?
  intro j
  have hkl : k < (flT ci).length := (List.getElem?_eq_some_iff.mp hq).1
  by_cases hj : j = k
  · subst hj
    rw [List.getElem?_set_self (by rw [List.length_map]; exact hkl), List.getElem?_map, hq]
    obtain ⟨a, i⟩ := q
    have hi : i = (j : Int) := flT_ix hq
    subst hi
    have e : upd2 h.1 t j x t j = x := if_pos ⟨rfl, rfl⟩
    rcases h0 with h0 | h0
    · simp only at h0
      subst h0
      simp only [Option.map_some, fvl, e, if_true]
    · simp only at h0
      subst h0
      simp only [Option.map_some, fvl, e]
      rfl
  · rw [List.getElem?_set_ne (fun e => hj e.symm), List.getElem?_map, List.getElem?_map]
    cases hz : (flT ci)[j]? with
    | none => rfl
    | some z =>
      have hi := flT_ix hz
      obtain ⟨a, i⟩ := z
      simp only at hi
      have e : upd2 h.1 t k x t i = h.1 t i := if_neg (fun e => hj (by omega))
      simp only [Option.map_some]
      match a with
      | 0 => simp only [fvl, e]
      | 1 => rfl
      | n + 2 => simp only [fvl, e]
theorem flv_updr {t : Int} {ci k : Nat} {x : Int} {q : Nat × Int} (hq : (flT ci)[k]? = some q) (h0 : q.1 = 1) :
    flv Γ (h.1, upd2 h.2.1 t k x, h.2.2) t ci = (flv Γ h t ci).set k (va_rf (rf Γ x)) := by
  unfold flv
  apply List.ext_getElem?
  intro j
  have hkl : k < (flT ci).length := (List.getElem?_eq_some_iff.mp hq).1
  by_cases hj : j = k
  · subst hj
    rw [List.getElem?_set_self (by rw [List.length_map]; exact hkl), List.getElem?_map, hq]
    obtain ⟨a, i⟩ := q
    have hi : i = (j : Int) := flT_ix hq
    subst hi
    have e : upd2 h.2.1 t j x t j = x := if_pos ⟨rfl, rfl⟩
    simp only at h0
    subst h0
    simp only [Option.map_some, fvl, e]
  · rw [List.getElem?_set_ne (fun e => hj e.symm), List.getElem?_map, List.getElem?_map]
    cases hz : (flT ci)[j]? with
    | none => rfl
    | some z =>
      have hi := flT_ix hz
      obtain ⟨a, i⟩ := z
      simp only at hi
      have e : upd2 h.2.1 t k x t i = h.2.1 t i := if_neg (fun e => hj (by omega))
      simp only [Option.map_some]
      match a with
      | 0 => rfl
      | 1 => simp only [fvl, e]
      | n + 2 => rfl
end AMH
