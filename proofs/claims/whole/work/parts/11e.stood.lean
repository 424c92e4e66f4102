/-! WHAT STOOD THERE BEFORE: the constants of the signs, the texts -/
/-- a sign, by its reference -/
def SG (r : Int) : Prop := 1000 ≤ r ∧ r < 1039
/-- a text constant, by its reference -/
def SS (r : Int) : Prop := 2000 ≤ r ∧ r < 2083
def sgK (r : Int) : Int := sgKind (r - 1000).toNat
def sgF (r : Int) : Int := sgFact (r - 1000).toNat
def sgS (r : Int) : Int := 2000 + sgStr (r - 1000).toNat
def ssB (r : Int) : List Int := stByt (r - 2000).toNat
def ssL (r : Int) : Int := (ssB r).length
section AME
variable {Γ : Cfg} {l : Launch} {M : MT} {d b pc : Nat} {L S : List AV} {h : HP} {K : Ou → HP → Prop} {g : GG}
theorem rf_st {r : Int} (h1 : 1000 ≤ r) : rf Γ r = some (Γ.2.1 r) := by
  unfold rf ad
  rw [if_neg (by omega), if_neg (by omega)]
theorem SG.eq {r : Int} (h : SG r) : ∃ i : Nat, i < 39 ∧ r = 1000 + i := ⟨(r - 1000).toNat, by have := h.1; have := h.2; omega, by have := h.1; omega⟩
theorem SS.eq {r : Int} (h : SS r) : ∃ i : Nat, i < nST ∧ r = 2000 + i := ⟨(r - 2000).toNat, by have h1 := h.1; have h2 := h.2; show (r - 2000).toNat < 83; omega, by have := h.1; omega⟩
/-- a field of what stood there -/
theorem aw_stf {r : Int} {o n ds : String} {v : AV} {idx : Nat} (h1 : 1000 ≤ r) (hE : ∀ {s : State}, StS Γ s s.heap → va_OF o n ds (conc Γ v) (Γ.2.1 r) (own0 Γ) s s.heap)
    (hl : ∀ {s : State} {args : Array Value} {m : MethodId}, s.vm.findClass M.1 = some m.cls → (∀ w ∈ gw, w.before args s = true) → (∀ w ∈ nw, va_Nw w s) → (Cond.fieldLink M.1 idx o n ds).before args s = true ∨ ∃ host, (Cond.fieldLinkNest M.1 idx o n ds host).before args s = true)
    (dg : decode M.2.1 pc = .ok (.getfield idx, 3)) (kk : AW Γ l M d b (pc + 3) L (v :: S) h K) : AW Γ l M d b pc L (vR r :: S) h K := by
  intro p e R s m args below meth c H locs cells slots mc ms ls C0 hls hx
  have k1 := kk p e R s m args below meth c H locs cells slots mc ms ls C0 hls hx
  obtain ⟨hx0, hb, hml, hown, hts, hlk, hret, hst, hS, hv, hR, hrest⟩ := C0
  show W p l e R s m args below meth c H locs cells slots _ (F0 m pc ls (va_rf (rf Γ r) :: S.map (conc Γ)))
  rw [rf_st h1]
  obtain ⟨cf, k, fi, f, cell, q1, q2, q3, q4, q5, q6⟩ := (hE hS).kept hv.2.1
  rcases hl hown hts hS.2.1.1 with hl1 | ⟨host, hl1⟩
  · exact W.getf hx0 hb hown hl1 q1 q2 q3 q4 (v := conc Γ v) q5 rfl rfl dg k1
  · exact va_Wgetf hx0 hb hown hl1 q1 q2 q3 q4 (v := conc Γ v) q5 rfl rfl dg k1
theorem aw_sacmp_eq {x y : Int} {off : Int} {tgt : Nat} (dg : decode M.2.1 pc = .ok (.if_acmp .eq off, 3)) (ht : (pc : Int) + off = (tgt : Int)) (h1 : SG x) (h2 : SG y) (kt : x = y → AW Γ l M d b tgt L S h K) (kf : ¬ x = y → AW Γ l M d b (pc + 3) L S h K) : AW Γ l M d b pc L (vR y :: vR x :: S) h K := by
  intro p e R s m args below meth c H locs cells slots mc ms ls C0 hls hx
  obtain ⟨i, hi, rfl⟩ := h1.eq
  obtain ⟨j, hj, rfl⟩ := h2.eq
  refine aw_acmp_eq dg ht (fun e9 => ?_) kt kf p e R s m args below meth c H locs cells slots mc ms ls C0 hls hx
  rw [rf_st (by omega), rf_st (by omega)] at e9
  have := C0.2.2.2.2.2.2.2.2.1.2.2.1.2.1 i j hi hj (Option.some.inj e9)
  rw [this]
theorem aw_sacmp_ne {x y : Int} {off : Int} {tgt : Nat} (dg : decode M.2.1 pc = .ok (.if_acmp .ne off, 3)) (ht : (pc : Int) + off = (tgt : Int)) (h1 : SG x) (h2 : SG y) (kt : ¬ x = y → AW Γ l M d b tgt L S h K) (kf : x = y → AW Γ l M d b (pc + 3) L S h K) : AW Γ l M d b pc L (vR y :: vR x :: S) h K := by
  intro p e R s m args below meth c H locs cells slots mc ms ls C0 hls hx
  obtain ⟨i, hi, rfl⟩ := h1.eq
  obtain ⟨j, hj, rfl⟩ := h2.eq
  refine aw_acmp_ne dg ht (fun e9 => ?_) kt kf p e R s m args below meth c H locs cells slots mc ms ls C0 hls hx
  rw [rf_st (by omega), rf_st (by omega)] at e9
  have := C0.2.2.2.2.2.2.2.2.1.2.2.1.2.1 i j hi hj (Option.some.inj e9)
  rw [this]
theorem aw_sign' {idx i : Nat} {r : Int} (dg : decode M.2.1 pc = .ok (.getstatic idx, 3)) (hi : i < 39) (hr : r = 1000 + i)
    (hl : ∀ {s : State} {args : Array Value} {m : MethodId}, s.vm.findClass M.1 = some m.cls → (∀ w ∈ gw, w.before args s = true) → (∀ w ∈ nw, va_Nw w s) → (Cond.fieldLink M.1 idx RX8 (sgName i) "LHalfOaths$Sign;").before args s = true ∨ ∃ host, (Cond.fieldLinkNest M.1 idx RX8 (sgName i) "LHalfOaths$Sign;" host).before args s = true)
    (k : AW Γ l M d b (pc + 3) L (vR r :: S) h K) : AW Γ l M d b pc L S h K := by
  intro p e R s m args below meth c H locs cells slots mc ms ls C0 hls hx
  have k1 := k p e R s m args below meth c H locs cells slots mc ms ls C0 hls hx
  obtain ⟨hx0, hb, hml, hown, hts, hlk, hret, hst, hS, hv, hrest⟩ := C0
  subst hr
  have e : conc Γ (vR (1000 + i)) = .ref (Γ.2.1 (1000 + i)) := by
    show va_rf (rf Γ _) = _
    rw [rf_st (by omega)]
    rfl
  rw [List.map_cons, e] at k1
  rcases hl hown hts hS.2.1.1 with hl1 | ⟨host, hl1⟩
  · exact va_gets hx0 hb (hS.2.2.1.1 i hi).1 hv hown hl1 (fun _ h => h) dg k1
  · exact va_getsN hx0 hb (hS.2.2.1.1 i hi).1 hv hown hl1 (fun _ h => h) dg k1
/-- the row of all signs -/
theorem aw_signs {idx : Nat} (dg : decode M.2.1 pc = .ok (.getstatic idx, 3))
    (hl : ∀ {s : State} {args : Array Value} {m : MethodId}, s.vm.findClass M.1 = some m.cls → (∀ w ∈ gw, w.before args s = true) → (∀ w ∈ nw, va_Nw w s) → (Cond.fieldLink M.1 idx RX11 "SIGNS" "[LHalfOaths$Sign;").before args s = true ∨ ∃ host, (Cond.fieldLinkNest M.1 idx RX11 "SIGNS" "[LHalfOaths$Sign;" host).before args s = true)
    (k : AW Γ l M d b (pc + 3) L (vR 1040 :: S) h K) : AW Γ l M d b pc L S h K := by
  intro p e R s m args below meth c H locs cells slots mc ms ls C0 hls hx
  have k1 := k p e R s m args below meth c H locs cells slots mc ms ls C0 hls hx
  obtain ⟨hx0, hb, hml, hown, hts, hlk, hret, hst, hS, hv, hrest⟩ := C0
  have e : conc Γ (vR 1040) = .ref (Γ.2.1 1040) := by
    show va_rf (rf Γ 1040) = _
    rw [rf_st (by omega)]
    rfl
  rw [List.map_cons, e] at k1
  rcases hl hown hts hS.2.1.1 with hl1 | ⟨host, hl1⟩
  · exact va_gets hx0 hb hS.2.2.1.2.2.1 hv hown hl1 (fun _ h => h) dg k1
  · exact va_getsN hx0 hb hS.2.2.1.2.2.1 hv hown hl1 (fun _ h => h) dg k1
theorem aw_signsLen (dg : decode M.2.1 pc = .ok (.arraylength, 1)) (k : AW Γ l M d b (pc + 1) L (vI 39 :: S) h K) : AW Γ l M d b pc L (vR 1040 :: S) h K := by
  intro p e R s m args below meth c H locs cells slots mc ms ls C0 hls hx
  have k1 := k p e R s m args below meth c H locs cells slots mc ms ls C0 hls hx
  obtain ⟨hx0, hb, hml, hown, hts, hlk, hret, hst, hS, hv, hrest⟩ := C0
  show W p l e R s m args below meth c H locs cells slots _ (F0 m pc ls (va_rf (rf Γ 1040) :: S.map (conc Γ)))
  rw [rf_st (by omega)]
  exact va_tlen hx0 hb hS.2.2.1.2.2.2 hv (v := Int32.ofInt 39) (by decide +kernel) dg k1
theorem aw_signsAt {j i : Int} (dg : decode M.2.1 pc = .ok (.aaload, 1)) (hj : wr j = i) (h0 : 0 ≤ i ∧ i < 39) (k : AW Γ l M d b (pc + 1) L (vR (1000 + i) :: S) h K) : AW Γ l M d b pc L (vI j :: vR 1040 :: S) h K := by
  subst hj
  intro p e R s m args below meth c H locs cells slots mc ms ls C0 hls hx
  have k1 := k p e R s m args below meth c H locs cells slots mc ms ls C0 hls hx
  obtain ⟨hx0, hb, hml, hown, hts, hlk, hret, hst, hS, hv, hrest⟩ := C0
  show W p l e R s m args below meth c H locs cells slots _ (F0 m pc ls (.int (Int32.ofInt j) :: va_rf (rf Γ 1040) :: S.map (conc Γ)))
  rw [rf_st (by omega)]
  have e : conc Γ (vR (1000 + wr j)) = .ref (Γ.2.1 (1000 + wr j)) := by
    show va_rf (rf Γ _) = _
    rw [rf_st (by omega)]
    rfl
  rw [List.map_cons, e] at k1
  refine vb_tq hx0 hb hS.2.2.1.2.2.2 hv (vp_in_wr h0.1 h0.2) (v := .ref (Γ.2.1 (1000 + wr j))) ?_ dg k1
  show Value.ref (Γ.2.1 (1000 + (((Int32.ofInt j).toNatClampNeg : Nat) : Int))) = _
  rw [clamp_wr h0.1]
/-- a sign into the text's row -/
theorem ax_aast5 {t j i r : Int} {n : Nat} (dg : decode M.2.1 pc = .ok (.aastore, 1)) (ha : isA (stt g) t 5 n) (hj : wr j = i) (h0 : 0 ≤ i ∧ i < n) (hr : SG r) (kk : AW Γ l M d b (pc + 1) L S (stt (upd2 g t i r)) K) : AW Γ l M d b pc L (vR r :: vI j :: vR t :: S) (stt g) K := by
  subst hj
  obtain ⟨k9, hk9, rfl⟩ := hr.eq
  intro p e R s m args below meth c H locs cells slots mc ms ls C0 hls hx
  obtain ⟨t1, t2⟩ := isA_lt (by omega) ha
  obtain ⟨q0, hq0⟩ := wl_get (Γ := Γ) (h := stt g) t1 t2 ha.2
  have hset := wl_set (h' := stt (upd2 g t (wr j) (1000 + k9))) t1 t2 ha.2 hq0 rfl (fun t' q => entS_upd (h := stt g) q)
  rw [ent_row ha.1] at hq0 hset
  obtain ⟨hx0, hb, hml, hown, hts, hlk, hret, hst, hS, hv, hR, hrest⟩ := id C0
  show W p l e R s m args below meth c H locs cells slots _ (F0 m pc ls (va_rf (rf Γ (1000 + k9)) :: .int (Int32.ofInt j) :: va_rf (rf Γ t) :: S.map (conc Γ)))
  rw [rf_ad t1, rf_st (by omega)]
  have hany : va_Any "HalfOaths$Sign" s H (Γ.2.1 (1000 + k9)) := by
    obtain ⟨cell, z1, z2, z3, -⟩ := ((hS.2.2.1.1 k9 hk9).2.1).kept hv.2.1
    obtain ⟨kC, hkC, -⟩ := Vm.findClass_spec z3
    refine ⟨cell, z1, z2, ⟨kC, hkC⟩, fun comp hc => ?_⟩
    have e9 : comp = cell.cls := Option.some.inj (hc.symm.trans z3)
    subst e9
    exact va_asg _ _
  refine va_astqM hx0 hb hS.1 hR.1 (wl_D Γ _) hv q0 5 hq0 rfl hany (vp_in_wr h0.1 h0.2) dg fun H1 locs1 hP1 hD1 hS1 => ?_
  have hP2 : va_P Γ.2.2.1 vwCl (wl Γ (stt (upd2 g t (wr j) (1000 + k9)))) H1 := by
    rw [← hset]
    have e8 : entS Γ (stt (upd2 g t (wr j) (1000 + k9))) t (5, n) = .inl (Γ.2.2.2.1 5, n, .inr (.inr (.inr (.inr (va_up (fun q : Nat => rf Γ (g t q)) (Int32.ofInt j).toNatClampNeg (some (Γ.2.1 (1000 + k9)))))))) := by
      show (Sum.inl (Γ.2.2.2.1 5, n, .inr (.inr (.inr (.inr (fun q : Nat => rf Γ (upd2 g t (wr j) (1000 + k9) t q)))))) : va_E) = _
      have e7 := upd2_row (h := stt g) (t := t) (x := 1000 + k9) h0.1 (fun z => rf Γ z)
      have e6 : (fun q : Nat => rf Γ (upd2 g t (wr j) (1000 + k9) t q)) = va_up (fun q : Nat => rf Γ (g t q)) (Int32.ofInt j).toNatClampNeg (some (Γ.2.1 (1000 + k9))) := by
        refine e7.trans ?_
        funext q
        unfold va_up
        rw [rf_st (by omega)]
      rw [e6]
    rw [e8]
    exact hP1
  exact kk p e R s m args below meth c H1 locs1 cells slots mc ms ls ⟨hx0, hb, hml, hown, hts, hlk, hret, hst, hS, hS1, ⟨hP2, sz_P rfl hP2⟩, hrest⟩ hls hx
theorem ax_aald5 {t j i : Int} {n : Nat} (dg : decode M.2.1 pc = .ok (.aaload, 1)) (ha : isA h t 5 n) (hj : wr j = i) (h0 : 0 ≤ i ∧ i < n) (kk : AW Γ l M d b (pc + 1) L (vR (h.1 t i) :: S) h K) : AW Γ l M d b pc L (vI j :: vR t :: S) h K := by
  subst hj
  exact aw_aald5 dg ha h0.1 h0.2 kk
/-- a text constant -/
theorem aw_ldcS {idx i : Nat} {r : Int} (dg : decode M.2.1 pc = .ok (.ldc idx, 2)) (hi : i < nST) (hr : r = 2000 + i) (ho : (stOwn i, stIdx i) = (M.1, idx)) (k : AW Γ l M d b (pc + 2) L (vR r :: S) h K) : AW Γ l M d b pc L S h K := by
  intro p e R s m args below meth c H locs cells slots mc ms ls C0 hls hx
  have k1 := k p e R s m args below meth c H locs cells slots mc ms ls C0 hls hx
  obtain ⟨hx0, hb, hml, hown, hts, hlk, hret, hst, hS, hv, hrest⟩ := C0
  subst hr
  have e : conc Γ (vR (2000 + i)) = .ref (Γ.2.1 (2000 + i)) := by
    show va_rf (rf Γ _) = _
    rw [rf_st (by omega)]
    rfl
  rw [List.map_cons, e] at k1
  have hs := (hS.2.2.2.1.1 i hi).1
  rw [show stOwn i = M.1 from congrArg Prod.fst ho, show stIdx i = idx from congrArg Prod.snd ho] at hs
  exact va_ldcS hx0 hb hown hs dg k1
theorem aw_ldcSw {idx i : Nat} {r : Int} (dg : decode M.2.1 pc = .ok (.ldc_w idx, 3)) (hi : i < nST) (hr : r = 2000 + i) (ho : (stOwn i, stIdx i) = (M.1, idx)) (k : AW Γ l M d b (pc + 3) L (vR r :: S) h K) : AW Γ l M d b pc L S h K := by
  intro p e R s m args below meth c H locs cells slots mc ms ls C0 hls hx
  have k1 := k p e R s m args below meth c H locs cells slots mc ms ls C0 hls hx
  obtain ⟨hx0, hb, hml, hown, hts, hlk, hret, hst, hS, hv, hrest⟩ := C0
  subst hr
  have e : conc Γ (vR (2000 + i)) = .ref (Γ.2.1 (2000 + i)) := by
    show va_rf (rf Γ _) = _
    rw [rf_st (by omega)]
    rfl
  rw [List.map_cons, e] at k1
  have hs := (hS.2.2.2.1.1 i hi).1
  rw [show stOwn i = M.1 from congrArg Prod.fst ho, show stIdx i = idx from congrArg Prod.snd ho] at hs
  intro T hT X
  obtain ⟨t, a1, b1⟩ := k1 T hT X
  exact ⟨t, X.ldcStringW hx0 hown (text := stTxt i) (a := Γ.2.1 (2000 + i)) hs.1 hs.2 (g := F0 m pc ls (S.map (conc Γ))) rfl (by rw [hb]; exact dg) t a1, b1⟩
/-- a method of what stood there -/
theorem aw_callO {y : MethodName} {M2 : MT} {as S0 : List AV} {idx n d2 b2 b3 : Nat} {r : Int} (w : callW M idx y M2 n) (wl9 : Cond.methodLink M.1 idx y ∈ gw) (win : Cond.instanceMethod y ∈ gw) (wse : Cond.selects y.cls y y ∈ gw) (dg : decode M.2.1 pc = .ok (.invokevirtual idx, 3)) (ht : M.2.2.2.2.2 = []) (h1 : 1000 ≤ r)
    (hrec : ∀ {s : State}, StS Γ s s.heap → va_O y.cls (Γ.2.1 r) (own0 Γ) s s.heap) (hd : d2 + 1 ≤ d) (hb : b2 + b3 ≤ b) (hn : as.length = n) (hS0 : S0 = as.reverse ++ vR r :: S) (ho : ∀ v ∈ S, oneSlot v) (hs8 : S.length ≤ 8)
    (k : Ct Γ l d2 b2 y M2 (vR r :: as) h (aft Γ l M d b3 (pc + 3) L S K)) : AW Γ l M d b pc L S0 h K := by
  intro p e R s m args below meth c H locs cells slots mc ms ls C0 hls hx
  obtain ⟨hx0, hb9, hml, hown, hts, hlk, hret, hst, hS, hv, hR, hf, hlo, hc1, hc2, hc3, hc4⟩ := id C0
  refine aw_ran (as := (Value.ref (Γ.2.1 r) :: as.map (conc Γ)).toArray) (S := S) C0 hls hx ht hb ?_
  have hct : conc Γ (vR r) = .ref (Γ.2.1 r) := by
    show va_rf (rf Γ r) = _
    rw [rf_st h1]
    rfl
  have hpc := PcG_at (as := vR r :: as) C0
  rw [List.map_cons, hct] at hpc
  obtain ⟨cell, z1, z2, z3, -⟩ := (hrec hS).kept hv.2.1
  refine vx_runV (C := y.cls) (b := Γ.2.1 r) (Ts := gw) (nL := M.2.2.1) (own := M.1) (bytes := M2.2.1) (maxL := M2.2.2.1) (ret := M2.2.2.2.1) (n := n) (index := idx) (As := as.map (conc Γ)) ⟨hx0, hb9, hml, hown, hts⟩ (k hst) ⟨⟨rfl, rfl, ?_, ?_, pay_gw hts w.1, List.mem_cons_self, hts _ w.1, hts _ w.2.1, w.2.2.1, callW.hlen w, hts _ wl9⟩, hts _ win, hts _ wse⟩ ⟨PcG_blind (vR r :: as), ⟨cell, z1, z2, z3⟩, hpc⟩ rfl ?_ hls.1 ?_ ?_ dg ⟨by omega, by omega⟩
  · show d2 + 8 + 1 ≤ R.frames
    omega
  · have := w.2.2.2.2
    show 8 + (M2.2.2.1 + 11) + (60 * d2 + 200) ≤ R.locals
    omega
  · rw [List.length_map]
    exact hn
  · show S0.map (conc Γ) = _
    rw [hS0, List.map_append, List.map_reverse, List.map_cons, hct]
  · have := cat_sum (Γ := Γ) S ho
    show 2 * 0 + _ ≤ 8
    omega
theorem recSG {r : Int} (hr : SG r) {s : State} (hS : StS Γ s s.heap) : va_O RX8 (Γ.2.1 r) (own0 Γ) s s.heap := by
  obtain ⟨i, hi, rfl⟩ := hr.eq
  exact (hS.2.2.1.1 i hi).2.1
theorem recSS {r : Int} (hr : SS r) {s : State} (hS : StS Γ s s.heap) : va_O "java/lang/String" (Γ.2.1 r) (own0 Γ) s s.heap := by
  obtain ⟨i, hi, rfl⟩ := hr.eq
  exact (hS.2.2.2.1.1 i hi).2.1
theorem ofSGk {r : Int} (hr : SG r) {s : State} (hS : StS Γ s s.heap) : va_OF RX8 "kind" "I" (conc Γ (vI (sgK r))) (Γ.2.1 r) (own0 Γ) s s.heap := by
  obtain ⟨i, hi, rfl⟩ := hr.eq
  have e : (1000 + (i : Int) - 1000).toNat = i := by omega
  have := (hS.2.2.1.1 i hi).2.2.1
  unfold sgK
  rw [e]
  exact this
theorem ofSGf {r : Int} (hr : SG r) {s : State} (hS : StS Γ s s.heap) : va_OF RX8 "fact" "I" (conc Γ (vI (sgF r))) (Γ.2.1 r) (own0 Γ) s s.heap := by
  obtain ⟨i, hi, rfl⟩ := hr.eq
  have e : (1000 + (i : Int) - 1000).toNat = i := by omega
  have := (hS.2.2.1.1 i hi).2.2.2.1
  unfold sgF
  rw [e]
  exact this
theorem ofSGs {r : Int} (hr : SG r) {s : State} (hS : StS Γ s s.heap) : va_OF RX8 "spelling" "Ljava/lang/String;" (conc Γ (vR (sgS r))) (Γ.2.1 r) (own0 Γ) s s.heap := by
  obtain ⟨i, hi, rfl⟩ := hr.eq
  have e : (1000 + (i : Int) - 1000).toNat = i := by omega
  have := (hS.2.2.1.1 i hi).2.2.2.2
  have e2 : conc Γ (vR (sgS (1000 + i))) = .ref (Γ.2.1 (2000 + sgStr i)) := by
    show va_rf (rf Γ _) = _
    unfold sgS
    rw [e, rf_st (by omega)]
    rfl
  rw [e2]
  exact this
end AME
