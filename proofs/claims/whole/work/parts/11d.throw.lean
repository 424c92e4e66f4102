/-! THROWING, for the printed walks -/
section NSW
variable {p : Program} {l : Launch} {e : Env} {R : Room} {s : State} {m : MethodId} {args : Array Value} {below : List Frame} {meth : Method} {c : Code} {H : Heap} {locs : List Loc} {cells slots : Nat}
variable {ls : Array Slot} {rest : List Value} {Qc : Array Value → State → Outcome → State → Prop} {XC : String → State → State → Prop} {free : Addr → Prop} {cc : ByteArray} {pc : Nat}
set_option maxHeartbeats 4000000 in
theorem ns_throw (hexec : p.tables.exec = Jvm.exec) (hb : c.code = cc) (hl : l.stackTraces = false) {text : String} {ik is ic mc ms sa : Nat} {A : Nat → Prop}
    (hown : s.vm.findClass RX11 = some m.cls)
    (hk : (Cond.classLink RX11 ik eNS).before args s = true) (hini : (Cond.initialized eNS).before args s = true) (hstr : vk_R RX11 is text sa s) (hat : ∀ w ∈ nsAt ic, w.before args s = true)
    (hgood : ∀ w ∈ Cond.classLink RX11 ik eNS :: Cond.initialized eNS :: nsAt ic, vx_ot w = true)
    (hU : vx_Zq Bundle.tN "UNASSIGNED_STACK" Bundle.steD A s s.heap) (hN : vx_Zq Bundle.tN "SUPPRESSED_SENTINEL" Bundle.listD A s s.heap) (hS : va_S A s.heap H locs) (hsize : ls.size = c.maxLocals)
    (d0 : decode cc pc = .ok (.new ik, 3)) (d3 : decode cc (pc + 3) = .ok (.dup, 1)) (d4 : decode cc (pc + 4) = .ok (.ldc is, 2)) (d6 : decode cc (pc + 6) = .ok (.invokespecial ic, 3)) (d9 : decode cc (pc + 9) = .ok (.athrow, 1))
    (hout : ∀ x ∈ c.exceptionTable.toList, covers x (pc + 9) = false)
    (hRframes : 2 + 3 < R.frames) (hRlocals : (rest.map fun v => v.category).sum + (13 * (2 + 1) + 43) ≤ R.locals) (hRcells : cells + 1 ≤ R.cells) (hRslots : slots + 6 ≤ R.slots) (hlocks : meth.locks = false)
    (hx : ∀ t : State, s.vm.Alike t.vm → H.size ≤ t.heap.size → (∀ q : Nat, q < H.size → t.heap[q]? = H[q]?) → XC eNS s t)
    (hf : ∀ z ∈ locs, free z.base) (hc : cells + 1 ≤ mc) (hs : slots + 6 ≤ ms) :
    W p l e R s m args below meth c H locs cells slots (vx_MQ below Qc XC args s mc ms free) (F0 m pc ls rest) := by
  intro T hT X
  have htr : e.platform.stackTraces = false := (show e.platform.stackTraces = l.stackTraces by rw [X.admits.platform]).trans hl
  have Y := vx_rebase X (R' := { frames := R.frames, locals := R.locals, cells := 1, slots := 6 }) (Nat.le_refl _) (Nat.le_refl _) hRcells hRslots
  obtain ⟨s', hA⟩ : ∃ z, z = (T.setVm s.vm).setFrames (.invoking m args :: below) := ⟨_, rfl⟩
  rw [← hA] at Y
  have hvm : s'.vm = s.vm := by rw [hA]; rfl
  have hhp : s'.heap = H := by rw [hA]; exact hT
  have hW0 : s.WarmedH s'.vm := by rw [hvm]; exact State.WarmedH.refl s
  have hat' : ∀ w ∈ nsAt ic, w.before args s' = true := fun w hw => vx_ot_at hW0 hvm.symm (hgood w (List.mem_cons_of_mem _ (List.mem_cons_of_mem _ hw))) (hat w hw)
  have hk' : (Cond.classLink RX11 ik eNS).before args s' = true := vx_ot_at hW0 hvm.symm (hgood _ List.mem_cons_self) hk
  have hini' : (Cond.initialized eNS).before args s' = true := vx_ot_at hW0 hvm.symm (hgood _ (List.mem_cons_of_mem _ List.mem_cons_self)) hini
  have hU' : vx_Zq Bundle.tN "UNASSIGNED_STACK" Bundle.steD A s' s'.heap := by rw [hhp]; exact vx_Zq.moved hW0.alike (hU.kept hS.2.1)
  have hN' : vx_Zq Bundle.tN "SUPPRESSED_SENTINEL" Bundle.listD A s' s'.heap := by rw [hhp]; exact vx_Zq.moved hW0.alike (hN.kept hS.2.1)
  have h : ∀ w ∈ nsAtoms ic, w.before args s' = true := vx_own hat' (vx_isRefq hU'.1) (vx_isRefq hN'.1) hU'.2.word hN'.2.word
  have hown' : s'.vm.findClass RX11 = some m.cls := by rw [hvm]; exact hown
  have hins : (Cond.instantiable eNS 6).before args s' = true := h _ (by simp [nsAtoms])
  obtain ⟨vm₁, cX, kX, hfX, hkX, -, -, X₁, st1⟩ := Y.newCold hexec (own := RX11) (C := eNS) (index := ik) (n := 6) hown' hk' hins hini'
    (g := F0 m pc ls rest) rfl (by rw [hb]; exact d0) (Nat.le_refl _) (Nat.le_refl _)
  generalize hT1 : (T.setVm vm₁).pushCell { cls := cX, slots := kX.instanceTypes.map defaultValue, vm := .none } = T1 at X₁ st1
  have hcat : (Value.ref T.heap.size).category = 1 := rfl
  have hcellA : T1.heap[T.heap.size]? = some (freshCell cX kX) := by rw [← hT1]; exact State.heap_pushCell_size _ _
  have d3' : decode c.code (pc + 3) = .ok (.dup, 1) := by rw [hb]; exact d3
  have d4' : decode c.code (pc + 4) = .ok (.ldc is, 2) := by rw [hb]; exact d4
  have hstr' : vk_R RX11 is text sa s' := vk_R.warm hW0 hstr
  obtain ⟨U, hsteps, hrun, hend, hW, hsame, ce, hce, hO1, hO2⟩ := ns_ctor X₁ hexec htr (ic := ic) hown' h (fun x hx => nomatch hx) hfX hkX hcellA (by rw [hhp, hT]; exact Nat.le_refl _) (msg := .ref sa) rfl
    (g := { method := m, pc := pc + 6, locals := ls, stack := .ref sa :: .ref T.heap.size :: .ref T.heap.size :: rest, locked := none }) rfl hsize rfl rfl (rest := rest) rfl
    (by rw [hb]; exact d6) (by rw [hb]; exact d9) hout hRframes (by simp only [List.map_cons, List.sum_cons, hcat]; omega) hlocks
  obtain ⟨f1, f2⟩ := vx_frame hsame
  rw [hhp] at f1 f2
  have hWs : s.WarmedH U.vm := State.WarmedH.trans hW0 hW
  have hcl : s.vm.findClass eNS = some ce.cls := by
    rw [hvm] at hO2
    exact hO2
  have hall : s.sameButNew ({ U with vm := s.vm } : State) locs mc ms := by
    subst hA
    obtain ⟨e1, e2⟩ := hsame
    rw [State.setFrames_setFrames] at e1
    have h2 : (T.setVm s.vm).sameButNew ({ U with vm := s.vm } : State) [] (0 + 1) (0 + 6) := ⟨e1, e2⟩
    have h3 := X.same.trans h2
    rw [List.append_nil] at h3
    exact h3.mono hc hs
  refine ⟨U, ?_, .threw T.heap.size, hrun, hend, Or.inr ⟨T.heap.size, rfl, eNS, ce, locs, hx U hWs.alike f1 (fun q hq => f2 q hq (fun z hz => nomatch hz)), hce, hO1, hcl, hWs, hall, hf⟩⟩
  refine st1 _ ?_
  show Steps p.tables e below (T1.setTop { method := m, pc := pc + 3, locals := ls, stack := .ref T.heap.size :: rest, locked := none }) _
  jvm_step X₁.here [X₁.here.top, hexec, d3', Value.category]
  exact X₁.ldcString hexec (own := RX11) (text := text) (index := is) (a := sa) hown' hstr'.1 hstr'.2
    (g := { method := m, pc := pc + 4, locals := ls, stack := .ref T.heap.size :: .ref T.heap.size :: rest, locked := none }) rfl d4' _ hsteps
set_option maxHeartbeats 4000000 in
theorem ns_throwW (hexec : p.tables.exec = Jvm.exec) (hb : c.code = cc) (hl : l.stackTraces = false) {text : String} {ik is ic mc ms sa : Nat} {A : Nat → Prop}
    (hown : s.vm.findClass RX11 = some m.cls)
    (hk : (Cond.classLink RX11 ik eNS).before args s = true) (hini : (Cond.initialized eNS).before args s = true) (hstr : vk_R RX11 is text sa s) (hat : ∀ w ∈ nsAt ic, w.before args s = true)
    (hgood : ∀ w ∈ Cond.classLink RX11 ik eNS :: Cond.initialized eNS :: nsAt ic, vx_ot w = true)
    (hU : vx_Zq Bundle.tN "UNASSIGNED_STACK" Bundle.steD A s s.heap) (hN : vx_Zq Bundle.tN "SUPPRESSED_SENTINEL" Bundle.listD A s s.heap) (hS : va_S A s.heap H locs) (hsize : ls.size = c.maxLocals)
    (d0 : decode cc pc = .ok (.new ik, 3)) (d3 : decode cc (pc + 3) = .ok (.dup, 1)) (d4 : decode cc (pc + 4) = .ok (.ldc_w is, 3)) (d6 : decode cc (pc + 7) = .ok (.invokespecial ic, 3)) (d9 : decode cc (pc + 10) = .ok (.athrow, 1))
    (hout : ∀ x ∈ c.exceptionTable.toList, covers x (pc + 10) = false)
    (hRframes : 2 + 3 < R.frames) (hRlocals : (rest.map fun v => v.category).sum + (13 * (2 + 1) + 43) ≤ R.locals) (hRcells : cells + 1 ≤ R.cells) (hRslots : slots + 6 ≤ R.slots) (hlocks : meth.locks = false)
    (hx : ∀ t : State, s.vm.Alike t.vm → H.size ≤ t.heap.size → (∀ q : Nat, q < H.size → t.heap[q]? = H[q]?) → XC eNS s t)
    (hf : ∀ z ∈ locs, free z.base) (hc : cells + 1 ≤ mc) (hs : slots + 6 ≤ ms) :
    W p l e R s m args below meth c H locs cells slots (vx_MQ below Qc XC args s mc ms free) (F0 m pc ls rest) := by
  intro T hT X
  have htr : e.platform.stackTraces = false := (show e.platform.stackTraces = l.stackTraces by rw [X.admits.platform]).trans hl
  have Y := vx_rebase X (R' := { frames := R.frames, locals := R.locals, cells := 1, slots := 6 }) (Nat.le_refl _) (Nat.le_refl _) hRcells hRslots
  obtain ⟨s', hA⟩ : ∃ z, z = (T.setVm s.vm).setFrames (.invoking m args :: below) := ⟨_, rfl⟩
  rw [← hA] at Y
  have hvm : s'.vm = s.vm := by rw [hA]; rfl
  have hhp : s'.heap = H := by rw [hA]; exact hT
  have hW0 : s.WarmedH s'.vm := by rw [hvm]; exact State.WarmedH.refl s
  have hat' : ∀ w ∈ nsAt ic, w.before args s' = true := fun w hw => vx_ot_at hW0 hvm.symm (hgood w (List.mem_cons_of_mem _ (List.mem_cons_of_mem _ hw))) (hat w hw)
  have hk' : (Cond.classLink RX11 ik eNS).before args s' = true := vx_ot_at hW0 hvm.symm (hgood _ List.mem_cons_self) hk
  have hini' : (Cond.initialized eNS).before args s' = true := vx_ot_at hW0 hvm.symm (hgood _ (List.mem_cons_of_mem _ List.mem_cons_self)) hini
  have hU' : vx_Zq Bundle.tN "UNASSIGNED_STACK" Bundle.steD A s' s'.heap := by rw [hhp]; exact vx_Zq.moved hW0.alike (hU.kept hS.2.1)
  have hN' : vx_Zq Bundle.tN "SUPPRESSED_SENTINEL" Bundle.listD A s' s'.heap := by rw [hhp]; exact vx_Zq.moved hW0.alike (hN.kept hS.2.1)
  have h : ∀ w ∈ nsAtoms ic, w.before args s' = true := vx_own hat' (vx_isRefq hU'.1) (vx_isRefq hN'.1) hU'.2.word hN'.2.word
  have hown' : s'.vm.findClass RX11 = some m.cls := by rw [hvm]; exact hown
  have hins : (Cond.instantiable eNS 6).before args s' = true := h _ (by simp [nsAtoms])
  obtain ⟨vm₁, cX, kX, hfX, hkX, -, -, X₁, st1⟩ := Y.newCold hexec (own := RX11) (C := eNS) (index := ik) (n := 6) hown' hk' hins hini'
    (g := F0 m pc ls rest) rfl (by rw [hb]; exact d0) (Nat.le_refl _) (Nat.le_refl _)
  generalize hT1 : (T.setVm vm₁).pushCell { cls := cX, slots := kX.instanceTypes.map defaultValue, vm := .none } = T1 at X₁ st1
  have hcat : (Value.ref T.heap.size).category = 1 := rfl
  have hcellA : T1.heap[T.heap.size]? = some (freshCell cX kX) := by rw [← hT1]; exact State.heap_pushCell_size _ _
  have d3' : decode c.code (pc + 3) = .ok (.dup, 1) := by rw [hb]; exact d3
  have d4' : decode c.code (pc + 4) = .ok (.ldc_w is, 3) := by rw [hb]; exact d4
  have hstr' : vk_R RX11 is text sa s' := vk_R.warm hW0 hstr
  obtain ⟨U, hsteps, hrun, hend, hW, hsame, ce, hce, hO1, hO2⟩ := ns_ctor X₁ hexec htr (ic := ic) hown' h (fun x hx => nomatch hx) hfX hkX hcellA (by rw [hhp, hT]; exact Nat.le_refl _) (msg := .ref sa) rfl
    (g := { method := m, pc := pc + 7, locals := ls, stack := .ref sa :: .ref T.heap.size :: .ref T.heap.size :: rest, locked := none }) rfl hsize rfl rfl (rest := rest) rfl
    (by rw [hb]; exact d6) (by rw [hb]; exact d9) hout hRframes (by simp only [List.map_cons, List.sum_cons, hcat]; omega) hlocks
  obtain ⟨f1, f2⟩ := vx_frame hsame
  rw [hhp] at f1 f2
  have hWs : s.WarmedH U.vm := State.WarmedH.trans hW0 hW
  have hcl : s.vm.findClass eNS = some ce.cls := by
    rw [hvm] at hO2
    exact hO2
  have hall : s.sameButNew ({ U with vm := s.vm } : State) locs mc ms := by
    subst hA
    obtain ⟨e1, e2⟩ := hsame
    rw [State.setFrames_setFrames] at e1
    have h2 : (T.setVm s.vm).sameButNew ({ U with vm := s.vm } : State) [] (0 + 1) (0 + 6) := ⟨e1, e2⟩
    have h3 := X.same.trans h2
    rw [List.append_nil] at h3
    exact h3.mono hc hs
  refine ⟨U, ?_, .threw T.heap.size, hrun, hend, Or.inr ⟨T.heap.size, rfl, eNS, ce, locs, hx U hWs.alike f1 (fun q hq => f2 q hq (fun z hz => nomatch hz)), hce, hO1, hcl, hWs, hall, hf⟩⟩
  refine st1 _ ?_
  show Steps p.tables e below (T1.setTop { method := m, pc := pc + 3, locals := ls, stack := .ref T.heap.size :: rest, locked := none }) _
  jvm_step X₁.here [X₁.here.top, hexec, d3', Value.category]
  exact X₁.ldcStringW hexec (own := RX11) (text := text) (index := is) (a := sa) hown' hstr'.1 hstr'.2
    (g := { method := m, pc := pc + 4, locals := ls, stack := .ref T.heap.size :: .ref T.heap.size :: rest, locked := none }) rfl d4' _ hsteps
end NSW
theorem nsg : ∀ w ∈ (nsAt 208).filter goodWord, w ∈ lw_tbl := by decide +kernel
theorem nsx : ∀ w ∈ (nsAt 208).filter (fun w => !goodWord w), w ∈ xw := by decide +kernel
theorem nsat {args : Array Value} {s : State} (hts : ∀ w ∈ gw, w.before args s = true) (hxw : ∀ w ∈ xw, va_Nw w s) : ∀ w ∈ nsAt 208, w.before args s = true := by
  intro w hw
  by_cases g : goodWord w = true
  · exact hts w (gw_mem (nsg w (List.mem_filter.mpr ⟨hw, g⟩)) g)
  · have hm : w ∈ xw := nsx w (List.mem_filter.mpr ⟨hw, by simp [g]⟩)
    have hn := List.all_eq_true.mp xw_is w hm
    have h3 := hxw w hm
    cases w with
    | declares x => exact va_Nw.use rfl h3
    | castable a b => exact va_Nw.use rfl h3
    | _ => simp [isXw] at hn
section AMTN
variable {Γ : Cfg} {l : Launch} {M : MT} {d b pc : Nat} {L S : List AV} {h : HP} {K : Ou → HP → Prop}
theorem thr208 {ix i : Nat} (hM : M.1 = RX11) (hi : i < nST) (hst0 : (stOwn i, stIdx i) = (RX11, ix))
    (d0 : decode M.2.1 pc = .ok (.new 204, 3)) (d3 : decode M.2.1 (pc + 3) = .ok (.dup, 1)) (d4 : decode M.2.1 (pc + 4) = .ok (.ldc ix, 2)) (d6 : decode M.2.1 (pc + 6) = .ok (.invokespecial 208, 3)) (d9 : decode M.2.1 (pc + 9) = .ok (.athrow, 1))
    (ht : M.2.2.2.2.2 = []) (hb1 : 1 ≤ b) (hn : h.2.2 = NN) (ho : ∀ v ∈ S, oneSlot v) (hs8 : S.length ≤ 8) (k : K (.inr eNS) h) : AW Γ l M d b pc L S h K := by
  intro p e R s m args below meth c H locs cells slots mc ms ls C0 hls hx
  obtain ⟨hx0, hb, hml, hown, hts, hlk, hret, hst, hS, hv, hR, hf, hlo, hc1, hc2, hc3, hc4⟩ := C0
  have hout : ∀ x ∈ c.exceptionTable.toList, covers x (pc + 9) = false := by
    rw [hx, ht]
    intro x hx
    cases hx
  have hs := (hS.2.2.2.1.1 i hi).1
  rw [show stOwn i = RX11 from congrArg Prod.fst hst0, show stIdx i = ix from congrArg Prod.snd hst0] at hs
  have hR2 : Γ.1 + NN ≤ H.size := by
    rcases hR.2 with q | q
    · omega
    · exact q.2
  have hsum := cat_sum (Γ := Γ) S ho
  refine ns_throw hx0 hb hst (ic := 208) (by rw [← hM]; exact hown) (hts _ (tb_mem 926 (by decide +kernel) (by decide +kernel))) (hts _ (tb_mem 28 (by decide +kernel) (by decide +kernel))) hs (nsat hts hS.2.1.2) (by decide +kernel) hS.2.2.2.2.1.1 hS.2.2.2.2.1.2 hv (hls.1.trans hml.symm) d0 d3 d4 d6 d9 hout ?_ ?_ (by omega) (by omega) hlk ?_ hv.2.2 (by omega) (by omega)
  · omega
  · show _ + (13 * (2 + 1) + 43) ≤ R.locals
    omega
  · intro t hvm hz hq
    exact ⟨h, k, hR.1.kept fun k9 q9 hk9 => hq q9.1 (hR.1 k9 q9 hk9).lt, Or.inr ⟨hn, by omega⟩⟩
theorem thr208W {ix i : Nat} (hM : M.1 = RX11) (hi : i < nST) (hst0 : (stOwn i, stIdx i) = (RX11, ix))
    (d0 : decode M.2.1 pc = .ok (.new 204, 3)) (d3 : decode M.2.1 (pc + 3) = .ok (.dup, 1)) (d4 : decode M.2.1 (pc + 4) = .ok (.ldc_w ix, 3)) (d6 : decode M.2.1 (pc + 7) = .ok (.invokespecial 208, 3)) (d9 : decode M.2.1 (pc + 10) = .ok (.athrow, 1))
    (ht : M.2.2.2.2.2 = []) (hb1 : 1 ≤ b) (hn : h.2.2 = NN) (ho : ∀ v ∈ S, oneSlot v) (hs8 : S.length ≤ 8) (k : K (.inr eNS) h) : AW Γ l M d b pc L S h K := by
  intro p e R s m args below meth c H locs cells slots mc ms ls C0 hls hx
  obtain ⟨hx0, hb, hml, hown, hts, hlk, hret, hst, hS, hv, hR, hf, hlo, hc1, hc2, hc3, hc4⟩ := C0
  have hout : ∀ x ∈ c.exceptionTable.toList, covers x (pc + 10) = false := by
    rw [hx, ht]
    intro x hx
    cases hx
  have hs := (hS.2.2.2.1.1 i hi).1
  rw [show stOwn i = RX11 from congrArg Prod.fst hst0, show stIdx i = ix from congrArg Prod.snd hst0] at hs
  have hR2 : Γ.1 + NN ≤ H.size := by
    rcases hR.2 with q | q
    · omega
    · exact q.2
  have hsum := cat_sum (Γ := Γ) S ho
  refine ns_throwW hx0 hb hst (ic := 208) (by rw [← hM]; exact hown) (hts _ (tb_mem 926 (by decide +kernel) (by decide +kernel))) (hts _ (tb_mem 28 (by decide +kernel) (by decide +kernel))) hs (nsat hts hS.2.1.2) (by decide +kernel) hS.2.2.2.2.1.1 hS.2.2.2.2.1.2 hv (hls.1.trans hml.symm) d0 d3 d4 d6 d9 hout ?_ ?_ (by omega) (by omega) hlk ?_ hv.2.2 (by omega) (by omega)
  · omega
  · show _ + (13 * (2 + 1) + 43) ≤ R.locals
    omega
  · intro t hvm hz hq
    exact ⟨h, k, hR.1.kept fun k9 q9 hk9 => hq q9.1 (hR.1 k9 q9 hk9).lt, Or.inr ⟨hn, by omega⟩⟩
theorem hgo130 : ∀ w ∈ Cond.classLink RX11 126 eIA :: Cond.initialized eIA :: vx_atS RX11 130 eIA exN, vx_ot w = true := by decide +kernel
theorem thr130 {ix i : Nat} (hM : M.1 = RX11) (hi : i < nST) (hst0 : (stOwn i, stIdx i) = (RX11, ix))
    (d0 : decode M.2.1 pc = .ok (.new 126, 3)) (d3 : decode M.2.1 (pc + 3) = .ok (.dup, 1)) (d4 : decode M.2.1 (pc + 4) = .ok (.ldc ix, 2)) (d6 : decode M.2.1 (pc + 6) = .ok (.invokespecial 130, 3)) (d9 : decode M.2.1 (pc + 9) = .ok (.athrow, 1))
    (ht : M.2.2.2.2.2 = []) (hb1 : 1 ≤ b) (hn : h.2.2 = NN) (ho : ∀ v ∈ S, oneSlot v) (hs8 : S.length ≤ 8) (k : K (.inr eIA) h) : AW Γ l M d b pc L S h K :=
  aw_throwS hM hi hst0 (by decide +kernel) (tb_mem 718 (by decide +kernel) (by decide +kernel)) (tb_mem 23 (by decide +kernel) (by decide +kernel)) xg130 xx130 hgo130 d0 d3 d4 d6 d9 ht hb1 hn ho hs8 k
theorem thr130W {ix i : Nat} (hM : M.1 = RX11) (hi : i < nST) (hst0 : (stOwn i, stIdx i) = (RX11, ix))
    (d0 : decode M.2.1 pc = .ok (.new 126, 3)) (d3 : decode M.2.1 (pc + 3) = .ok (.dup, 1)) (d4 : decode M.2.1 (pc + 4) = .ok (.ldc_w ix, 3)) (d6 : decode M.2.1 (pc + 7) = .ok (.invokespecial 130, 3)) (d9 : decode M.2.1 (pc + 10) = .ok (.athrow, 1))
    (ht : M.2.2.2.2.2 = []) (hb1 : 1 ≤ b) (hn : h.2.2 = NN) (ho : ∀ v ∈ S, oneSlot v) (hs8 : S.length ≤ 8) (k : K (.inr eIA) h) : AW Γ l M d b pc L S h K :=
  aw_throwSW hM hi hst0 (by decide +kernel) (tb_mem 718 (by decide +kernel) (by decide +kernel)) (tb_mem 23 (by decide +kernel) (by decide +kernel)) xg130 xx130 hgo130 d0 d3 d4 d6 d9 ht hb1 hn ho hs8 k
theorem hgo140 : ∀ w ∈ Cond.classLink RX11 136 eUO :: Cond.initialized eUO :: vx_atS RX11 140 eUO exN, vx_ot w = true := by decide +kernel
theorem thr140 {ix i : Nat} (hM : M.1 = RX11) (hi : i < nST) (hst0 : (stOwn i, stIdx i) = (RX11, ix))
    (d0 : decode M.2.1 pc = .ok (.new 136, 3)) (d3 : decode M.2.1 (pc + 3) = .ok (.dup, 1)) (d4 : decode M.2.1 (pc + 4) = .ok (.ldc ix, 2)) (d6 : decode M.2.1 (pc + 6) = .ok (.invokespecial 140, 3)) (d9 : decode M.2.1 (pc + 9) = .ok (.athrow, 1))
    (ht : M.2.2.2.2.2 = []) (hb1 : 1 ≤ b) (hn : h.2.2 = NN) (ho : ∀ v ∈ S, oneSlot v) (hs8 : S.length ≤ 8) (k : K (.inr eUO) h) : AW Γ l M d b pc L S h K :=
  aw_throwS hM hi hst0 (by decide +kernel) (tb_mem 788 (by decide +kernel) (by decide +kernel)) (tb_mem 24 (by decide +kernel) (by decide +kernel)) xg140 xx140 hgo140 d0 d3 d4 d6 d9 ht hb1 hn ho hs8 k
theorem thr140W {ix i : Nat} (hM : M.1 = RX11) (hi : i < nST) (hst0 : (stOwn i, stIdx i) = (RX11, ix))
    (d0 : decode M.2.1 pc = .ok (.new 136, 3)) (d3 : decode M.2.1 (pc + 3) = .ok (.dup, 1)) (d4 : decode M.2.1 (pc + 4) = .ok (.ldc_w ix, 3)) (d6 : decode M.2.1 (pc + 7) = .ok (.invokespecial 140, 3)) (d9 : decode M.2.1 (pc + 10) = .ok (.athrow, 1))
    (ht : M.2.2.2.2.2 = []) (hb1 : 1 ≤ b) (hn : h.2.2 = NN) (ho : ∀ v ∈ S, oneSlot v) (hs8 : S.length ≤ 8) (k : K (.inr eUO) h) : AW Γ l M d b pc L S h K :=
  aw_throwSW hM hi hst0 (by decide +kernel) (tb_mem 788 (by decide +kernel) (by decide +kernel)) (tb_mem 24 (by decide +kernel) (by decide +kernel)) xg140 xx140 hgo140 d0 d3 d4 d6 d9 ht hb1 hn ho hs8 k
theorem hgo236 : ∀ w ∈ Cond.classLink RX11 232 eIO :: Cond.initialized eIO :: vx_atS RX11 236 eIO exN, vx_ot w = true := by decide +kernel
theorem thr236 {ix i : Nat} (hM : M.1 = RX11) (hi : i < nST) (hst0 : (stOwn i, stIdx i) = (RX11, ix))
    (d0 : decode M.2.1 pc = .ok (.new 232, 3)) (d3 : decode M.2.1 (pc + 3) = .ok (.dup, 1)) (d4 : decode M.2.1 (pc + 4) = .ok (.ldc ix, 2)) (d6 : decode M.2.1 (pc + 6) = .ok (.invokespecial 236, 3)) (d9 : decode M.2.1 (pc + 9) = .ok (.athrow, 1))
    (ht : M.2.2.2.2.2 = []) (hb1 : 1 ≤ b) (hn : h.2.2 = NN) (ho : ∀ v ∈ S, oneSlot v) (hs8 : S.length ≤ 8) (k : K (.inr eIO) h) : AW Γ l M d b pc L S h K :=
  aw_throwS hM hi hst0 (by decide +kernel) (tb_mem 889 (by decide +kernel) (by decide +kernel)) (tb_mem 25 (by decide +kernel) (by decide +kernel)) xg236 xx236 hgo236 d0 d3 d4 d6 d9 ht hb1 hn ho hs8 k
theorem thr236W {ix i : Nat} (hM : M.1 = RX11) (hi : i < nST) (hst0 : (stOwn i, stIdx i) = (RX11, ix))
    (d0 : decode M.2.1 pc = .ok (.new 232, 3)) (d3 : decode M.2.1 (pc + 3) = .ok (.dup, 1)) (d4 : decode M.2.1 (pc + 4) = .ok (.ldc_w ix, 3)) (d6 : decode M.2.1 (pc + 7) = .ok (.invokespecial 236, 3)) (d9 : decode M.2.1 (pc + 10) = .ok (.athrow, 1))
    (ht : M.2.2.2.2.2 = []) (hb1 : 1 ≤ b) (hn : h.2.2 = NN) (ho : ∀ v ∈ S, oneSlot v) (hs8 : S.length ≤ 8) (k : K (.inr eIO) h) : AW Γ l M d b pc L S h K :=
  aw_throwSW hM hi hst0 (by decide +kernel) (tb_mem 889 (by decide +kernel) (by decide +kernel)) (tb_mem 25 (by decide +kernel) (by decide +kernel)) xg236 xx236 hgo236 d0 d3 d4 d6 d9 ht hb1 hn ho hs8 k
theorem hgo245 : ∀ w ∈ Cond.classLink RX11 241 eIS :: Cond.initialized eIS :: vx_atS RX11 245 eIS exN, vx_ot w = true := by decide +kernel
theorem thr245 {ix i : Nat} (hM : M.1 = RX11) (hi : i < nST) (hst0 : (stOwn i, stIdx i) = (RX11, ix))
    (d0 : decode M.2.1 pc = .ok (.new 241, 3)) (d3 : decode M.2.1 (pc + 3) = .ok (.dup, 1)) (d4 : decode M.2.1 (pc + 4) = .ok (.ldc ix, 2)) (d6 : decode M.2.1 (pc + 6) = .ok (.invokespecial 245, 3)) (d9 : decode M.2.1 (pc + 9) = .ok (.athrow, 1))
    (ht : M.2.2.2.2.2 = []) (hb1 : 1 ≤ b) (hn : h.2.2 = NN) (ho : ∀ v ∈ S, oneSlot v) (hs8 : S.length ≤ 8) (k : K (.inr eIS) h) : AW Γ l M d b pc L S h K :=
  aw_throwS hM hi hst0 (by decide +kernel) (tb_mem 1043 (by decide +kernel) (by decide +kernel)) (tb_mem 29 (by decide +kernel) (by decide +kernel)) xg245 xx245 hgo245 d0 d3 d4 d6 d9 ht hb1 hn ho hs8 k
theorem thr245W {ix i : Nat} (hM : M.1 = RX11) (hi : i < nST) (hst0 : (stOwn i, stIdx i) = (RX11, ix))
    (d0 : decode M.2.1 pc = .ok (.new 241, 3)) (d3 : decode M.2.1 (pc + 3) = .ok (.dup, 1)) (d4 : decode M.2.1 (pc + 4) = .ok (.ldc_w ix, 3)) (d6 : decode M.2.1 (pc + 7) = .ok (.invokespecial 245, 3)) (d9 : decode M.2.1 (pc + 10) = .ok (.athrow, 1))
    (ht : M.2.2.2.2.2 = []) (hb1 : 1 ≤ b) (hn : h.2.2 = NN) (ho : ∀ v ∈ S, oneSlot v) (hs8 : S.length ≤ 8) (k : K (.inr eIS) h) : AW Γ l M d b pc L S h K :=
  aw_throwSW hM hi hst0 (by decide +kernel) (tb_mem 1043 (by decide +kernel) (by decide +kernel)) (tb_mem 29 (by decide +kernel) (by decide +kernel)) xg245 xx245 hgo245 d0 d3 d4 d6 d9 ht hb1 hn ho hs8 k
theorem ax_aald4 {t j i : Int} {n : Nat} (dg : decode M.2.1 pc = .ok (.aaload, 1)) (ha : isA h t 4 n) (hj : wr j = i) (h0 : 0 ≤ i ∧ i < n) (kk : AW Γ l M d b (pc + 1) L (vR (h.2.1 t i) :: S) h K) : AW Γ l M d b pc L (vI j :: vR t :: S) h K := by
  subst hj
  exact aw_aald4 dg ha h0.1 h0.2 kk
end AMTN
