/-! RULES OF AW: what is thrown, calls of a nest mate's method, the JDK's own -/
theorem xat {ic : Nat} {E : String} (h1 : ∀ w ∈ (vx_atS RX11 ic E exN).filter goodWord, w ∈ lw_tbl) (h2 : ∀ w ∈ xwOf ic E, w ∈ xw) {args : Array Value} {s : State} (hts : ∀ w ∈ gw, w.before args s = true) (hxw : ∀ w ∈ xw, va_Nw w s) : ∀ w ∈ vx_atS RX11 ic E exN, w.before args s = true := by
  intro w hw
  by_cases g : goodWord w = true
  · exact hts w (gw_mem (h1 w (List.mem_filter.mpr ⟨hw, g⟩)) g)
  · have hm : w ∈ xw := h2 w (List.mem_filter.mpr ⟨hw, by simp [g]⟩)
    have hn := List.all_eq_true.mp xw_is w hm
    have h3 := hxw w hm
    cases w with
    | declares x => exact va_Nw.use rfl h3
    | castable a b => exact va_Nw.use rfl h3
    | _ => simp [isXw] at hn
theorem xx130 : ∀ w ∈ xwOf 130 eIA, w ∈ xw := fun w h => List.mem_append_left _ h
theorem xx140 : ∀ w ∈ xwOf 140 eUO, w ∈ xw := fun w h => List.mem_append_right _ (List.mem_append_left _ h)
theorem xx208 : ∀ w ∈ xwOf 208 eNS, w ∈ xw := fun w h => List.mem_append_right _ (List.mem_append_right _ (List.mem_append_left _ h))
theorem xx236 : ∀ w ∈ xwOf 236 eIO, w ∈ xw := fun w h => List.mem_append_right _ (List.mem_append_right _ (List.mem_append_right _ (List.mem_append_left _ h)))
theorem xx245 : ∀ w ∈ xwOf 245 eIS, w ∈ xw := fun w h => List.mem_append_right _ (List.mem_append_right _ (List.mem_append_right _ (List.mem_append_right _ h)))
section AMT
variable {Γ : Cfg} {l : Launch} {M : MT} {d b pc : Nat} {L S : List AV} {h : HP} {K : Ou → HP → Prop}
/-- 'throw new E(text)' -/
theorem aw_throwS {E : String} {ik ix ic i : Nat} (hM : M.1 = RX11) (hi : i < nST) (hst0 : (stOwn i, stIdx i) = (RX11, ix)) (hE : Bundle.fit E = true) (hk : Cond.classLink RX11 ik E ∈ gw) (hini : Cond.initialized E ∈ gw) (g1 : ∀ w ∈ (vx_atS RX11 ic E exN).filter goodWord, w ∈ lw_tbl) (g2 : ∀ w ∈ xwOf ic E, w ∈ xw)
    (hgood : ∀ w ∈ Cond.classLink RX11 ik E :: Cond.initialized E :: vx_atS RX11 ic E exN, vx_ot w = true)
    (d0 : decode M.2.1 pc = .ok (.new ik, 3)) (d3 : decode M.2.1 (pc + 3) = .ok (.dup, 1)) (d4 : decode M.2.1 (pc + 4) = .ok (.ldc ix, 2)) (d6 : decode M.2.1 (pc + 6) = .ok (.invokespecial ic, 3)) (d9 : decode M.2.1 (pc + 9) = .ok (.athrow, 1))
    (ht : M.2.2.2.2.2 = []) (hb1 : 1 ≤ b) (hn : h.2.2 = NN) (ho : ∀ v ∈ S, oneSlot v) (hs8 : S.length ≤ 8) (k : K (.inr E) h) : AW Γ l M d b pc L S h K := by
  intro p e R s m args below meth c H locs cells slots mc ms ls C0 hls hx
  obtain ⟨hx0, hb, hml, hown, hts, hlk, hret, hst, hS, hv, hR, hf, hlo, hc1, hc2, hc3, hc4⟩ := C0
  have hout : ∀ x ∈ c.exceptionTable.toList, covers x (pc + 9) = false := by
    rw [hx, ht]
    intro x hx
    cases hx
  have hs := (hS.2.2.2.1.1 i hi).1
  rw [show stOwn i = RX11 from congrArg Prod.fst hst0, show stIdx i = ix from congrArg Prod.snd hst0] at hs
  have hR2 : Γ.1 + NN ≤ H.size := by
    rcases hR.2 with q | q
    · omega
    · exact q.2
  have hsum := cat_sum (Γ := Γ) S ho
  refine vx_throwS hx0 hb hst (own := RX11) (names := exN) (ic := ic) (by rw [← hM]; exact hown) hE (by decide +kernel) (hts _ hk) (hts _ hini) hs (xat g1 g2 hts hS.2.1.2) hgood hS.2.2.2.2.1.1 hS.2.2.2.2.1.2 hv (hls.1.trans hml.symm) d0 d3 d4 d6 d9 hout ?_ ?_ (by omega) (by omega) hlk ?_ hv.2.2 (by omega) (by omega)
  · show 2 + 3 < R.frames
    omega
  · show _ + (13 * (2 + 1) + 43) ≤ R.locals
    omega
  · intro t hvm hz hq
    refine ⟨h, k, hR.1.kept fun k9 q9 hk9 => hq q9.1 (hR.1 k9 q9 hk9).lt, Or.inr ⟨hn, by omega⟩⟩
theorem aw_throwSW {E : String} {ik ix ic i : Nat} (hM : M.1 = RX11) (hi : i < nST) (hst0 : (stOwn i, stIdx i) = (RX11, ix)) (hE : Bundle.fit E = true) (hk : Cond.classLink RX11 ik E ∈ gw) (hini : Cond.initialized E ∈ gw) (g1 : ∀ w ∈ (vx_atS RX11 ic E exN).filter goodWord, w ∈ lw_tbl) (g2 : ∀ w ∈ xwOf ic E, w ∈ xw)
    (hgood : ∀ w ∈ Cond.classLink RX11 ik E :: Cond.initialized E :: vx_atS RX11 ic E exN, vx_ot w = true)
    (d0 : decode M.2.1 pc = .ok (.new ik, 3)) (d3 : decode M.2.1 (pc + 3) = .ok (.dup, 1)) (d4 : decode M.2.1 (pc + 4) = .ok (.ldc_w ix, 3)) (d7 : decode M.2.1 (pc + 7) = .ok (.invokespecial ic, 3)) (d10 : decode M.2.1 (pc + 10) = .ok (.athrow, 1))
    (ht : M.2.2.2.2.2 = []) (hb1 : 1 ≤ b) (hn : h.2.2 = NN) (ho : ∀ v ∈ S, oneSlot v) (hs8 : S.length ≤ 8) (k : K (.inr E) h) : AW Γ l M d b pc L S h K := by
  intro p e R s m args below meth c H locs cells slots mc ms ls C0 hls hx
  obtain ⟨hx0, hb, hml, hown, hts, hlk, hret, hst, hS, hv, hR, hf, hlo, hc1, hc2, hc3, hc4⟩ := C0
  have hout : ∀ x ∈ c.exceptionTable.toList, covers x (pc + 10) = false := by
    rw [hx, ht]
    intro x hx
    cases hx
  have hs := (hS.2.2.2.1.1 i hi).1
  rw [show stOwn i = RX11 from congrArg Prod.fst hst0, show stIdx i = ix from congrArg Prod.snd hst0] at hs
  have hR2 : Γ.1 + NN ≤ H.size := by
    rcases hR.2 with q | q
    · omega
    · exact q.2
  have hsum := cat_sum (Γ := Γ) S ho
  refine vx_throwSW hx0 hb hst (own := RX11) (names := exN) (ic := ic) (by rw [← hM]; exact hown) hE (by decide +kernel) (hts _ hk) (hts _ hini) hs (xat g1 g2 hts hS.2.1.2) hgood hS.2.2.2.2.1.1 hS.2.2.2.2.1.2 hv (hls.1.trans hml.symm) d0 d3 d4 d7 d10 hout ?_ ?_ (by omega) (by omega) hlk ?_ hv.2.2 (by omega) (by omega)
  · show 2 + 3 < R.frames
    omega
  · show _ + (13 * (2 + 1) + 43) ≤ R.locals
    omega
  · intro t hvm hz hq
    refine ⟨h, k, hR.1.kept fun k9 q9 hk9 => hq q9.1 (hR.1 k9 q9 hk9).lt, Or.inr ⟨hn, by omega⟩⟩
/-- a private static method of a nest mate -/
theorem aw_callSN {y : MethodName} {M2 : MT} {as S0 : List AV} {idx n d2 b2 b3 : Nat} {host : String} (w : callW M idx y M2 n) (wl9 : Cond.methodLinkNest M.1 idx y host ∈ nw) (wst : Cond.static y ∈ gw) (dg : decode M.2.1 pc = .ok (.invokestatic idx, 3)) (ht : M.2.2.2.2.2 = []) (hd : d2 + 1 ≤ d) (hb : b2 + b3 ≤ b) (hn : as.length = n) (hS0 : S0 = as.reverse ++ S) (ho : ∀ v ∈ S, oneSlot v) (hs8 : S.length ≤ 8)
    (k : Ct Γ l d2 b2 y M2 as h (aft Γ l M d b3 (pc + 3) L S K)) : AW Γ l M d b pc L S0 h K := by
  intro p e R s m args below meth c H locs cells slots mc ms ls C0 hls hx
  obtain ⟨hx0, hb9, hml, hown, hts, hlk, hret, hst, hS, hv, hR, hf, hlo, hc1, hc2, hc3, hc4⟩ := id C0
  refine aw_ran (as := (as.map (conc Γ)).toArray) (S := S) C0 hls hx ht hb ?_
  refine vx_runSN (host := host) (Ts := gw) (nL := M.2.2.1) (own := M.1) (bytes := M2.2.1) (maxL := M2.2.2.1) (ret := M2.2.2.2.1) (n := n) (index := idx) (As := as.map (conc Γ)) ⟨hx0, hb9, hml, hown, hts⟩ (k hst) ⟨⟨⟨rfl, rfl, ?_, ?_, pay_gw hts w.1, List.mem_cons_self⟩, hts _ w.1, hts _ w.2.1, w.2.2.1, callW.hlen w, va_Nw.use rfl (hS.2.1.1 _ wl9)⟩, hts _ wst, trivial⟩ ⟨PcG_blind as, PcG_at C0⟩ rfl ?_ hls.1 ?_ ?_ dg ⟨by omega, by omega⟩
  · show d2 + 8 + 1 ≤ R.frames
    omega
  · have := w.2.2.2.2
    show 8 + (M2.2.2.1 + 11) + (60 * d2 + 200) ≤ R.locals
    omega
  · rw [List.length_map]
    exact hn
  · show S0.map (conc Γ) = _
    rw [hS0, List.map_append, List.map_reverse]
  · have := cat_sum (Γ := Γ) S ho
    show 2 * 0 + _ ≤ 8
    omega
theorem aw_mmax {idx : Nat} {x y : Int} (dg : decode M.2.1 pc = .ok (.invokestatic idx, 3)) (hl : Cond.methodLink M.1 idx Lib.Math.max.name ∈ gw) (h1 : Cond.static Lib.Math.max.name ∈ gw) (h2 : Cond.initialized "java/lang/Math" ∈ gw) (h3 : Cond.code Lib.Math.max.name Lib.Math.max.code 2 (some .int) ∈ gw) (ho : ∀ v ∈ S, oneSlot v) (hs8 : S.length ≤ 8)
    (k : AW Γ l M d b (pc + 3) L (vI (iMax x y) :: S) h K) : AW Γ l M d b pc L (vI y :: vI x :: S) h K := by
  intro p e R s m args below meth c H locs cells slots mc ms ls C0 hls hx
  have k1 := k p e R s m args below meth c H locs cells slots mc ms ls C0 hls hx
  obtain ⟨hx0, hb, hml, hown, hts, hlk, hret, hst, hS, hv, hR, hf, hlo, hc1, hc2, hc3, hc4⟩ := C0
  have hsum := cat_sum (Γ := Γ) S ho
  refine va_mmax hx0 hb (hml.trans hls.1.symm) hown (hts _ hl) (hts _ h1) (hts _ h2) (hts _ h3) (by omega) (by omega) (by omega) (by omega) dg ?_
  have e : (if Int32.ofInt x < Int32.ofInt y then Int32.ofInt y else Int32.ofInt x) = Int32.ofInt (iMax x y) := by
    unfold iMax
    by_cases q : wr x < wr y
    · rw [if_pos q, if_pos (wr_lt.mpr q)]
    · rw [if_neg q, if_neg (fun z => q (wr_lt.mp z))]
  rw [e]
  exact k1
theorem aw_mmin {idx : Nat} {x y : Int} (dg : decode M.2.1 pc = .ok (.invokestatic idx, 3)) (hl : Cond.methodLink M.1 idx Lib.Math.min.name ∈ gw) (h1 : Cond.static Lib.Math.min.name ∈ gw) (h2 : Cond.initialized "java/lang/Math" ∈ gw) (h3 : Cond.code Lib.Math.min.name Lib.Math.min.code 2 (some .int) ∈ gw) (ho : ∀ v ∈ S, oneSlot v) (hs8 : S.length ≤ 8)
    (k : AW Γ l M d b (pc + 3) L (vI (iMin x y) :: S) h K) : AW Γ l M d b pc L (vI y :: vI x :: S) h K := by
  intro p e R s m args below meth c H locs cells slots mc ms ls C0 hls hx
  have k1 := k p e R s m args below meth c H locs cells slots mc ms ls C0 hls hx
  obtain ⟨hx0, hb, hml, hown, hts, hlk, hret, hst, hS, hv, hR, hf, hlo, hc1, hc2, hc3, hc4⟩ := C0
  have hsum := cat_sum (Γ := Γ) S ho
  refine va_mmin hx0 hb (hml.trans hls.1.symm) hown (hts _ hl) (hts _ h1) (hts _ h2) (hts _ h3) (by omega) (by omega) (by omega) (by omega) dg ?_
  have e : (if Int32.ofInt y < Int32.ofInt x then Int32.ofInt y else Int32.ofInt x) = Int32.ofInt (iMin x y) := by
    unfold iMin
    by_cases q : wr y < wr x
    · rw [if_pos q, if_pos (wr_lt.mpr q)]
    · rw [if_neg q, if_neg (fun z => q (wr_lt.mp z))]
  rw [e]
  exact k1
theorem aw_ldc {idx : Nat} {z : Int} (dg : decode M.2.1 pc = .ok (.ldc idx, 2)) (hc : Cond.constant M.1 idx (Int32.ofInt z) ∈ gw) (k : AW Γ l M d b (pc + 2) L (vI z :: S) h K) : AW Γ l M d b pc L S h K :=
  AW.step k fun hx hb hown hts hl kk => lv_ldc hx hb hown (hts _ hc) dg (kk _ hl)
/-- a constant of the signs -/
theorem aw_sign {idx i : Nat} (dg : decode M.2.1 pc = .ok (.getstatic idx, 3)) (hi : i < 39) (hl : Cond.fieldLink M.1 idx RX8 (sgName i) "LHalfOaths$Sign;" ∈ gw) (k : AW Γ l M d b (pc + 3) L (vR (1000 + i) :: S) h K) : AW Γ l M d b pc L S h K := by
  intro p e R s m args below meth c H locs cells slots mc ms ls C0 hls hx
  have k1 := k p e R s m args below meth c H locs cells slots mc ms ls C0 hls hx
  obtain ⟨hx0, hb, hml, hown, hts, hlk, hret, hst, hS, hv, hrest⟩ := C0
  refine va_gets hx0 hb (hS.2.2.1.1 i hi).1 hv hown (hts _ hl) (fun _ h => h) dg ?_
  have e : conc Γ (vR (1000 + i)) = .ref (Γ.2.1 (1000 + i)) := by
    show va_rf (rf Γ _) = _
    unfold rf ad
    rw [if_neg (by omega), if_neg (by omega)]
    rfl
  rw [List.map_cons, e] at k1
  exact k1
theorem rf_sign {i : Nat} : rf Γ (1000 + i) = some (Γ.2.1 (1000 + i)) := by
  unfold rf ad
  rw [if_neg (by omega), if_neg (by omega)]
end AMT
