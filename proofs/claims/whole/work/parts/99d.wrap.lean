/-! THE LAW'S OWN METHODS THAT CATCH: their contracts, calls of the class in them, what they catch -/
abbrev RLw : String := "HalfOathsLaw"
def wsH (y : MethodName) (M : MT) : List Cond := .codeWith y M.2.1 M.2.2.1 M.2.2.2.1 M.2.2.2.2.2 :: gw
def CtH (Γ : Cfg) (l : Launch) (d b : Nat) (y : MethodName) (M : MT) (as : List AV) (h : HP) (K : Ou → HP → Prop) : Prop :=
  l.stackTraces = false → vx_Met l y (wsH y M) (rmD d b) (PcG Γ h as) (QcK Γ K) (XcK Γ K) b (16 * b) (own0 Γ)
def cpI (E : String) : Nat := if E = eIA then 13 else if E = eUO then 15 else if E = eIO then 24 else if E = eNS then 26 else 49
theorem cl_of : ∀ E ∈ exL, Cond.classLink RLw (cpI E) E ∈ gw := by
  intro E hE
  simp only [exL, List.mem_cons, List.not_mem_nil, or_false] at hE
  rcases hE with rfl | rfl | rfl | rfl | rfl
  · exact tb_mem 566 (by decide +kernel) (by decide +kernel)
  · exact tb_mem 567 (by decide +kernel) (by decide +kernel)
  · exact tb_mem 876 (by decide +kernel) (by decide +kernel)
  · exact tb_mem 875 (by decide +kernel) (by decide +kernel)
  · exact tb_mem 1034 (by decide +kernel) (by decide +kernel)
theorem cast_of : ∀ E ∈ exL, Cond.castable E E ∈ xw := by decide +kernel
theorem nc_of : ∀ a ∈ exL, ∀ b ∈ exL, a ≠ b → (a, b) ∈ ncT := by decide +kernel
theorem cp_ne0 (E : String) : cpI E ≠ 0 := by
  unfold cpI
  repeat' split
  all_goals decide
/-- a handler: it names what it caught by its number -/
def hands (M : MT) (hp j : Nat) : Prop :=
  (∃ k' : Fin 4, decode M.2.1 hp = .ok (.astore_n k', 1) ∧ (k' : Nat) < M.2.2.1 ∧ decode M.2.1 (hp + 1) = .ok (.iconst ((j : Int) + 1), 1) ∧ decode M.2.1 (hp + 2) = .ok (.ireturn, 1)) ∨
  (∃ i : Nat, decode M.2.1 hp = .ok (.astore i, 2) ∧ i < M.2.2.1 ∧ decode M.2.1 (hp + 2) = .ok (.iconst ((j : Int) + 1), 1) ∧ decode M.2.1 (hp + 3) = .ok (.ireturn, 1))
def aftH (Γ : Cfg) (l : Launch) (M : MT) (d b : Nat) (pc : Nat) (L S : List AV) (nms : List String) (K : Ou → HP → Prop) : Ou → HP → Prop := fun o h' => match o with
  | .inl v => AW Γ l M d b (pc + 3) L (psh v S) h' K
  | .inr E => ∃ j : Nat, nms[j]? = some E ∧ K (.inl (vI ((j : Int) + 1))) h'
section AMH9
variable {Γ : Cfg} {l : Launch} {M : MT} {d b pc : Nat} {L S : List AV} {h : HP} {K : Ou → HP → Prop}
theorem CtH.enter {y : MethodName} {as : List AV} (hc : M.1 = y.cls) (hn : M.2.2.2.2.1 = y.name) (hp : plainName y.cls = true) (ho : ∀ v ∈ as, oneSlot v) (hn2 : as.length ≤ M.2.2.1) (hL : L = as ++ List.replicate (M.2.2.1 - as.length) vU)
    (k : AW Γ l M d b 0 L [] h K) : CtH Γ l d b y M as h K := by
  intro hl
  refine vx_ofWH (cc := M.2.1) (maxL := M.2.2.1) (ret := M.2.2.2.1) (hh := M.2.2.2.2.2) hp rfl ?_
  intro p e s m args below meth c s₁ B hml hP
  obtain ⟨hargs, hS, hR⟩ := hP
  have hts0 : ∀ w ∈ wsH y M, w.before args s = true := atoms_spec (ws := wsH y M) B.pre
  have hown : s.vm.findClass M.1 = some m.cls := by
    rw [hc]
    exact findClass_of_methodNamed B.named
  have hname : meth.name = M.2.2.2.2.1 := by
    rw [hn]
    exact (name_of_methodNamed B.named B.method).1
  have htb : c.exceptionTable.toList = tableOf M.2.2.2.2.2 := vx_table (x := y) B (hts0 _ List.mem_cons_self)
  rw [hargs, lg_entry_eq]
  exact k p e _ s m _ below meth c s.heap [] 0 0 b (16 * b) _ ⟨B.exec, B.bytes, hml, hown, fun w hw => by rw [← hargs]; exact hts0 w (List.mem_cons_of_mem _ hw), B.notSynchronized, ⟨B.returns, hname⟩, hl, hS, va_S.rf, hR, Nat.le_refl _, Nat.le_refl _, by omega, by omega, Nat.le_refl _, Nat.le_refl _⟩ (lv_start ho hn2 hL) htb
theorem aw_ranH {h9 : HP} {b2 b3 : Nat} {S0 : List AV} {nms : List String} {p : Program} {e : Env} {R : Room} {s : State} {m : MethodId} {args : Array Value} {below : List Frame} {meth : Method} {c : Code} {H : Heap} {locs : List Loc} {cells slots mc ms : Nat} {ls : Array Slot} {as : Array Value}
    (C0 : Ctx Γ l M d b p R s m args meth c H locs cells slots mc ms h9) (hls : lv_has ls M.2.2.1 (lvl Γ 0 L)) (hx : c.exceptionTable.toList = tableOf M.2.2.2.2.2) (hb23 : b2 + b3 ≤ b)
    (hM : M.1 = RLw) (hret9 : M.2.2.2.1 = some .int) (hnm : nms.map cpI = M.2.2.2.2.2.map (fun z => z.2.2.2)) (hnd : nms.Nodup) (hex : ∀ x ∈ nms, x ∈ exL) (hcv : ∀ z ∈ M.2.2.2.2.2, z.1 ≤ pc ∧ pc < z.2.1) (hhd : ∀ (j : Nat) (z : Nat × Nat × Nat × Nat), M.2.2.2.2.2[j]? = some z → hands M z.2.2.1 j)
    (hr : vx_Run p l e R s m args below meth c H locs cells slots b2 (16 * b2) (F0 m pc ls (S0.map (conc Γ))) (S.map (conc Γ)) (QcK Γ (aftH Γ l M d b3 pc L S nms K) as) (XcK Γ (aftH Γ l M d b3 pc L S nms K)) (own0 Γ)) :
    W p l e R s m args below meth c H locs cells slots (vx_MQ below (QcK Γ K) (XcK Γ K) args s mc ms (own0 Γ)) (F0 m pc ls (S0.map (conc Γ))) := by
  obtain ⟨hx0, hb, hml, hown, hts, hlk, hret, hst, hS, hv, hR, hf, hlo, hc1, hc2, hc3, hc4⟩ := C0
  intro T hT X
  have keepS : ∀ {T' : State} {L' : List Loc} {c9 s9 : Nat}, Stand p l e R s m args below meth c T' (locs ++ L') c9 s9 → (∀ q ∈ L', own0 Γ q.base) → va_S (own0 Γ) s.heap T'.heap (locs ++ L') := by
    intro T' L' c9 s9 X' hL
    have hF := vx_frame (U := T') X'.same
    have hb9 : ∀ z ∈ locs ++ L', own0 Γ z.base := fun z hz => by
      rcases List.mem_append.mp hz with h | h
      · exact hv.2.2 z h
      · exact hL z h
    exact ⟨hF.1, fun q h1 h2 => hF.2 q h1 (fun z hz e => h2 (e ▸ hb9 z hz)), hb9⟩
  rcases hr T hT X with ⟨v, st₀, t, T', L', h0, X', hL, e1, e2, ⟨v', h', hv', hk, hR'⟩, st⟩ | ⟨q, st₀, t, T', L', E, ce, h0, X', hL, e1, e2, ⟨h', hk, hR'⟩, hce, hcv9, hcl, st⟩
  · have hvv : v = rv Γ v' := by
      have := hv'
      simp only [Outcome.returned.injEq] at this
      exact this
    have k1 : AW Γ l M d b3 (pc + 3) L (psh v' S) h' K := hk
    have k2 := k1 p e R s m args below meth c T'.heap (locs ++ L') (cells + b2) (slots + 16 * b2) mc ms ls ⟨hx0, hb, hml, hown, hts, hlk, hret, hst, hS, keepS X' hL, by rw [e1]; exact hR', hf, hlo, by omega, by omega, hc3, hc4⟩ hls hx
    obtain ⟨t2, a1, b1⟩ := k2 T' rfl X'
    refine ⟨t2, st t2 ?_, b1⟩
    rw [← psh_conc, ← hvv] at a1
    exact a1
  · obtain ⟨j, hj, hkk⟩ : ∃ j : Nat, nms[j]? = some E ∧ K (.inl (vI ((j : Int) + 1))) h' := hk
    have hjl : j < nms.length := (List.getElem?_eq_some_iff.mp hj).1
    have hEx : E ∈ exL := hex E (List.mem_of_getElem? hj)
    have hlen : nms.length = M.2.2.2.2.2.length := by
      have := congrArg List.length hnm
      simpa using this
    obtain ⟨z, hz⟩ : ∃ z, M.2.2.2.2.2[j]? = some z := ⟨_, List.getElem?_eq_getElem (by omega)⟩
    have hzc : z.2.2.2 = cpI E := by
      have h1 := congrArg (fun x => x[j]?) hnm
      simp only [List.getElem?_map, hj, hz, Option.map_some, Option.some.injEq] at h1
      exact h1.symm
    have hsp : M.2.2.2.2.2 = M.2.2.2.2.2.take j ++ z :: M.2.2.2.2.2.drop (j + 1) := by
      obtain ⟨hl1, hz1⟩ := List.getElem?_eq_some_iff.mp hz
      rw [← hz1, List.getElem_cons_drop, List.take_append_drop]
    have hsplit : c.exceptionTable.toList = tableOf (M.2.2.2.2.2.take j) ++ ⟨z.1, z.2.1, z.2.2.1, z.2.2.2⟩ :: tableOf (M.2.2.2.2.2.drop (j + 1)) := by
      rw [hx]
      conv => lhs; rw [hsp]
      unfold tableOf
      rw [List.map_append, List.map_cons]
    have hcov : covers (⟨z.1, z.2.1, z.2.2.1, z.2.2.2⟩ : ExceptionTableEntry) pc = true := by
      have := hcv z (List.mem_of_getElem? hz)
      simp [covers, this.1, this.2]
    have hAx := hkk
    have hpass : ∀ x ∈ tableOf (M.2.2.2.2.2.take j), covers x pc = false ∨ (x.catchType ≠ 0 ∧ ∃ nm : String, (Cond.classLink M.1 x.catchType nm).before args s = true ∧ va_Nc E nm s) := by
      intro x hx9
      unfold tableOf at hx9
      obtain ⟨y, hy, rfl⟩ := List.mem_map.mp hx9
      obtain ⟨i, hi⟩ := List.getElem?_of_mem hy
      have hij : i < j := by
        have := (List.getElem?_eq_some_iff.mp hi).1
        rw [List.length_take] at this
        omega
      rw [List.getElem?_take_of_lt hij] at hi
      obtain ⟨nm, hnmi⟩ : ∃ nm, nms[i]? = some nm := ⟨_, List.getElem?_eq_getElem (by omega)⟩
      have hyc : y.2.2.2 = cpI nm := by
        have h1 := congrArg (fun x => x[i]?) hnm
        simp only [List.getElem?_map, hnmi, hi, Option.map_some, Option.some.injEq] at h1
        exact h1.symm
      have hne : E ≠ nm := by
        intro e9
        subst e9
        obtain ⟨q1, q2⟩ := List.getElem?_eq_some_iff.mp hj
        obtain ⟨q3, q4⟩ := List.getElem?_eq_some_iff.mp hnmi
        exact List.pairwise_iff_getElem.mp hnd i j q3 q1 hij (q4.trans q2.symm)
      have hnx : nm ∈ exL := hex nm (List.mem_of_getElem? hnmi)
      refine Or.inr ⟨by show y.2.2.2 ≠ 0; rw [hyc]; exact cp_ne0 nm, nm, ?_, ?_⟩
      · show (Cond.classLink M.1 y.2.2.2 nm).before args s = true
        rw [hyc, hM]
        exact hts _ (cl_of nm hnx)
      · exact hS.2.2.2.1.2.2.2.2 (E, nm) (nc_of E hEx nm hnx hne)
    have hlink : (Cond.classLink M.1 z.2.2.2 E).before args s = true := by
      rw [hzc, hM]
      exact hts _ (cl_of E hEx)
    have hcast : (Cond.castable E E).before args s = true := va_Nw.use rfl (hS.2.1.2 _ (cast_of E hEx))
    have hC : Ctx Γ l M d b3 p R s m args meth c T'.heap (locs ++ L') (cells + b2) (slots + 16 * b2) mc ms h' := ⟨hx0, hb, hml, hown, hts, hlk, hret, hst, hS, keepS X' hL, by rw [e1]; exact hR', hf, hlo, by omega, by omega, hc3, hc4⟩
    have k2 : vx_W p l e R s m args below meth c T'.heap (locs ++ L') (cells + b2) (slots + 16 * b2) (vx_MQ below (QcK Γ K) (XcK Γ K) args s mc ms (own0 Γ)) (F0 m pc ls (S.map (conc Γ))) q := by
      refine vx_catch (own := M.1) (name := E) (E := E) (ce := ce) hown (tableOf (M.2.2.2.2.2.take j)) ⟨z.1, z.2.1, z.2.2.1, z.2.2.2⟩ _ hsplit hpass hcov (by show z.2.2.2 ≠ 0; rw [hzc]; exact cp_ne0 E) hlink hcast (by rw [e1]; exact hce) hcv9 hcl ?_
      rcases hhd j z hz with ⟨k', g1, g2, g3, g4⟩ | ⟨i, g1, g2, g3, g4⟩
      · have kA : AW Γ l M d b3 (z.2.2.1 + 1) [] [] h' K := aw_iconst g3 (aw_iret g4 hret9 hAx)
        exact lv_astore_n hx0 hb g1 rfl hls g2 rfl fun ls' hl' => kA p e R s m args below meth c _ _ _ _ mc ms ls' hC ⟨hl'.1, hl'.2.1, fun q hq => by cases hq⟩ hx
      · have kA : AW Γ l M d b3 (z.2.2.1 + 2) [] [] h' K := aw_iconst g3 (aw_iret g4 hret9 hAx)
        exact lv_astore hx0 hb g1 hls g2 rfl fun ls' hl' => kA p e R s m args below meth c _ _ _ _ mc ms ls' hC ⟨hl'.1, hl'.2.1, fun q hq => by cases hq⟩ hx
    obtain ⟨t2, a1, b1⟩ := k2 T' rfl X'
    exact ⟨t2, st.trans a1, b1⟩
/-- a call of the class where what it throws is caught -/
theorem aw_callVH {y : MethodName} {M2 : MT} {as S0 : List AV} {nms : List String} {idx n d2 b2 b3 ci N : Nat} {t : Int} {T9 : u_T} (w : callW M idx y M2 n) (wl9 : Cond.methodLink M.1 idx y ∈ gw) (win : Cond.instanceMethod y ∈ gw) (wse : Cond.selects y.cls y y ∈ gw) (dg : decode M.2.1 pc = .ok (.invokevirtual idx, 3)) (hcl : vwCl[ci]? = some (y.cls, T9, N)) (hO : isO h t ci) (hd : d2 + 1 ≤ d) (hb : b2 + b3 ≤ b) (hn : as.length = n) (hS0 : S0 = as.reverse ++ vR t :: S) (ho : ∀ v ∈ S, oneSlot v) (hs8 : S.length ≤ 8)
    (hM : M.1 = RLw) (hret9 : M.2.2.2.1 = some .int) (hnm : nms.map cpI = M.2.2.2.2.2.map (fun z => z.2.2.2)) (hnd : nms.Nodup) (hex : ∀ x ∈ nms, x ∈ exL) (hcv : ∀ z ∈ M.2.2.2.2.2, z.1 ≤ pc ∧ pc < z.2.1) (hhd : ∀ (j : Nat) (z : Nat × Nat × Nat × Nat), M.2.2.2.2.2[j]? = some z → hands M z.2.2.1 j)
    (k : Ct Γ l d2 b2 y M2 (vR t :: as) h (aftH Γ l M d b3 pc L S nms K)) : AW Γ l M d b pc L S0 h K := by
  intro p e R s m args below meth c H locs cells slots mc ms ls C0 hls hx
  obtain ⟨hx0, hb9, hml, hown, hts, hlk, hret, hst, hS, hv, hR, hf, hlo, hc1, hc2, hc3, hc4⟩ := id C0
  refine aw_ranH (as := (Value.ref (ad Γ t) :: as.map (conc Γ)).toArray) (S := S) C0 hls hx hb hM hret9 hnm hnd hex hcv hhd ?_
  have hci := vw_cl_lt hcl
  obtain ⟨t1, t2⟩ := isO_lt hci hO
  obtain ⟨q0, hq0⟩ := wl_get (Γ := Γ) (h := h) t1 t2 hO.2
  rw [ent_obj hci hO.1] at hq0
  have hct : conc Γ (vR t) = .ref (ad Γ t) := by
    show va_rf (rf Γ t) = _
    rw [rf_ad t1]
    rfl
  have hpc := PcG_at (as := vR t :: as) C0
  rw [List.map_cons, hct] at hpc
  refine vx_runV (C := y.cls) (b := ad Γ t) (Ts := gw) (nL := M.2.2.1) (own := M.1) (bytes := M2.2.1) (maxL := M2.2.2.1) (ret := M2.2.2.2.1) (n := n) (index := idx) (As := as.map (conc Γ)) ⟨hx0, hb9, hml, hown, hts⟩ (k hst) ⟨⟨rfl, rfl, ?_, ?_, pay_gw hts w.1, List.mem_cons_self, hts _ w.1, hts _ w.2.1, w.2.2.1, callW.hlen w, hts _ wl9⟩, hts _ win, hts _ wse⟩ ⟨PcG_blind (vR t :: as), va_recv hS.1 hR.1 hcl hq0, hpc⟩ rfl ?_ hls.1 ?_ ?_ dg ⟨by omega, by omega⟩
  · show d2 + 8 + 1 ≤ R.frames
    omega
  · have := w.2.2.2.2
    show 8 + (M2.2.2.1 + 11) + (60 * d2 + 200) ≤ R.locals
    omega
  · rw [List.length_map]
    exact hn
  · show S0.map (conc Γ) = _
    rw [hS0, List.map_append, List.map_reverse, List.map_cons, hct]
  · have := cat_sum (Γ := Γ) S ho
    show 2 * 0 + _ ≤ 8
    omega
def callWH (M : MT) (idx : Nat) (y : MethodName) (M2 : MT) (n : Nat) : Prop :=
  Cond.codeWith y M2.2.1 M2.2.2.1 M2.2.2.2.1 M2.2.2.2.2.2 ∈ gw ∧ Cond.initialized y.cls ∈ gw ∧ (y.cls ≠ "java/lang/invoke/MethodHandle" ∧ y.cls ≠ "java/lang/invoke/VarHandle") ∧ (parseMethodDescriptor y.desc).map (fun d => d.parameters.length) = some n ∧ M2.2.2.1 ≤ 40
/-- a call of a static method that catches -/
theorem aw_callSH {y : MethodName} {M2 : MT} {as S0 : List AV} {idx n d2 b2 b3 : Nat} (w : callWH M idx y M2 n) (wl9 : Cond.methodLink M.1 idx y ∈ gw) (wst : Cond.static y ∈ gw) (dg : decode M.2.1 pc = .ok (.invokestatic idx, 3)) (ht : M.2.2.2.2.2 = []) (hd : d2 + 1 ≤ d) (hb : b2 + b3 ≤ b) (hn : as.length = n) (hS0 : S0 = as.reverse ++ S) (ho : ∀ v ∈ S, oneSlot v) (hs8 : S.length ≤ 8)
    (k : CtH Γ l d2 b2 y M2 as h (aft Γ l M d b3 (pc + 3) L S K)) : AW Γ l M d b pc L S0 h K := by
  intro p e R s m args below meth c H locs cells slots mc ms ls C0 hls hx
  obtain ⟨hx0, hb9, hml, hown, hts, hlk, hret, hst, hS, hv, hR, hf, hlo, hc1, hc2, hc3, hc4⟩ := id C0
  refine aw_ran (as := (as.map (conc Γ)).toArray) (S := S) C0 hls hx ht hb ?_
  have hlen : ∀ sig, parseMethodDescriptor y.desc = some sig → n = sig.parameters.length := by
    intro sig hs
    have h2 := w.2.2.2.1
    rw [hs] at h2
    exact (Option.some.inj h2).symm
  have pay : ∀ w9 ∈ wsH y M2, ∀ (a' : Array Value) (U : State), s.WarmedH U.vm → w9.before a' U = true := by
    intro w9 hw a' U hW
    have hm : w9 ∈ gw := by
      rcases List.mem_cons.mp hw with rfl | h
      · exact w.1
      · exact h
    exact word_at hW (good_of_word (List.mem_filter.mp hm).2) (hts w9 hm)
  refine vx_runSX (Ts := gw) (nL := M.2.2.1) (own := M.1) (bytes := M2.2.1) (maxL := M2.2.2.1) (ret := M2.2.2.2.1) (hh := M2.2.2.2.2.2) (n := n) (index := idx) (As := as.map (conc Γ)) ⟨hx0, hb9, hml, hown, hts⟩ (k hst) ⟨⟨rfl, rfl, ?_, ?_, pay, List.mem_cons_self⟩, hts _ w.1, hts _ w.2.1, w.2.2.1, hlen, hts _ wl9, hts _ wst⟩ ⟨PcG_blind as, PcG_at C0⟩ rfl ?_ hls.1 ?_ ?_ dg ⟨by omega, by omega⟩
  · show d2 + 8 + 1 ≤ R.frames
    omega
  · have := w.2.2.2.2
    show 8 + (M2.2.2.1 + 11) + (60 * d2 + 200) ≤ R.locals
    omega
  · rw [List.length_map]
    exact hn
  · show S0.map (conc Γ) = _
    rw [hS0, List.map_append, List.map_reverse]
  · have := cat_sum (Γ := Γ) S ho
    show 2 * 0 + _ ≤ 8
    omega
/-- from the class's answer to what is behind the call, or what was caught -/
theorem CK.aft {nms : List String} {A : Int → Int → GG → Prop} {o : Ou} {h' : HP} (hr : ∀ c v g1, A c v g1 → 0 ≤ c ∧ c ≤ nms.length) (h0 : ∀ v g1, A 0 v g1 → AW Γ l M d b (pc + 3) L (vI v :: S) (stt g1) K) (h1 : ∀ c v g1, A c v g1 → 0 < c → K (.inl (vI c)) (stt g1)) (hk : CK nms A o h') : aftH Γ l M d b pc L S nms K o h' := by
  obtain ⟨c, v, g1, ⟨rfl, rfl⟩, ha⟩ := hk
  have hc := hr c v g1 ha
  unfold oc
  by_cases q : c = 0
  · subst q
    exact h0 v g1 ha
  · rw [if_neg q]
    have hl : (c - 1).toNat < nms.length := by omega
    refine ⟨(c - 1).toNat, ?_, ?_⟩
    · show nms[(c - 1).toNat]? = some (exn nms c)
      unfold exn
      rw [List.getD_eq_getElem?_getD, List.getElem?_eq_getElem hl]
      rfl
    · have e : (((c - 1).toNat : Nat) : Int) + 1 = c := by omega
      rw [e]
      exact h1 c v g1 ha (by omega)
end AMH9
