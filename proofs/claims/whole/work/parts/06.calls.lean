/-! CONTRACTS AND CALLS -/
def rmD (d b : Nat) : Room := { frames := d + 8, cells := b, slots := 16 * b, locals := 60 * d + 200 }
def wsOf (y : MethodName) (M : MT) : List Cond := .code y M.2.1 M.2.2.1 M.2.2.2.1 :: gw
def PcG (Γ : Cfg) (h : HP) (as : List AV) : Array Value → State → Prop := fun a s => a = (as.map (conc Γ)).toArray ∧ StS Γ s s.heap ∧ Rep Γ h s.heap
/-- y, called with as in the world h, ends, and K holds of its end and the world then -/
def Ct (Γ : Cfg) (l : Launch) (d b : Nat) (y : MethodName) (M : MT) (as : List AV) (h : HP) (K : Ou → HP → Prop) : Prop :=
  l.stackTraces = false → vx_Met l y (wsOf y M) (rmD d b) (PcG Γ h as) (QcK Γ K) (XcK Γ K) b (16 * b) (own0 Γ)
theorem lv_args_one (Γ : Cfg) : ∀ (as : List AV) (k : Nat), (∀ v ∈ as, oneSlot v) → ∀ (i : Nat) (v : AV), as[i]? = some v → (k + i, conc Γ v) ∈ lv_args k (as.map (conc Γ))
  | [], k, _, i, v, h => by simp at h
  | x :: r, k, ho, 0, v, h => by
    simp at h
    subst h
    exact List.mem_cons_self
  | x :: r, k, ho, i + 1, v, h => by
    have h1 := lv_args_one Γ r (k + 1) (fun v hv => ho v (List.mem_cons_of_mem _ hv)) i v (by simpa using h)
    have hc : (conc Γ x).category = 1 := conc_cat (ho x List.mem_cons_self)
    show _ ∈ (k, conc Γ x) :: lv_args (if (conc Γ x).category = 2 then k + 2 else k + 1) (r.map (conc Γ))
    rw [hc, if_neg (by decide)]
    have e : k + 1 + i = k + (i + 1) := by omega
    rw [e] at h1
    exact List.mem_cons_of_mem _ h1
theorem lg_sl_one (Γ : Cfg) : ∀ (as : List AV), (∀ v ∈ as, oneSlot v) → (lg_sl (as.map (conc Γ))).length = as.length
  | [], _ => rfl
  | x :: r, ho => by
    have h1 := lg_sl_one Γ r (fun v hv => ho v (List.mem_cons_of_mem _ hv))
    have hc : (conc Γ x).category = 1 := conc_cat (ho x List.mem_cons_self)
    unfold lg_sl at h1 ⊢
    simp [hc, h1]
theorem cv_conc {Γ : Cfg} {v : AV} {w : Value} (h : cv Γ v = some w) : conc Γ v = w := by
  obtain x | x | x | x := v
  · cases h; rfl
  · cases h; rfl
  · cases h
  · cases h
theorem lv_start {Γ : Cfg} {as L : List AV} {n : Nat} (ho : ∀ v ∈ as, oneSlot v) (hn : as.length ≤ n) (hL : L = as ++ List.replicate (n - as.length) vU) :
    lv_has ((lg_sl (as.map (conc Γ)) ++ List.replicate (n - (lg_sl (as.map (conc Γ))).length) Slot.unset).toArray) n (lvl Γ 0 L) := by
  have h := lv_entry (as.map (conc Γ)) (n := n) (by rw [lg_sl_one Γ as ho]; exact hn)
  refine ⟨h.1, h.2.1, fun q hq => ?_⟩
  obtain ⟨j, x, h1, h2, h3⟩ := lvl_of _ _ q hq
  rw [hL] at h2
  by_cases hj : j < as.length
  · rw [List.getElem?_append_left hj] at h2
    have h4 := h.2.2 _ (lv_args_one Γ as 0 ho j x h2)
    rw [cv_conc h3] at h4
    rw [show q.1 = 0 + j by omega]
    exact h4
  · rw [List.getElem?_append_right (by omega)] at h2
    have := List.mem_of_getElem? h2
    rw [List.mem_replicate] at this
    rw [this.2] at h3
    cases h3
section AMC
variable {Γ : Cfg} {l : Launch} {M : MT} {d b pc : Nat} {L S : List AV} {h : HP} {K : Ou → HP → Prop}
/-- into a method -/
theorem Ct.enter {y : MethodName} {as : List AV} (hc : M.1 = y.cls) (hn : M.2.2.2.2.1 = y.name) (ht : M.2.2.2.2.2 = []) (hp : plainName y.cls = true) (ho : ∀ v ∈ as, oneSlot v) (hn2 : as.length ≤ M.2.2.1) (hL : L = as ++ List.replicate (M.2.2.1 - as.length) vU)
    (k : AW Γ l M d b 0 L [] h K) : Ct Γ l d b y M as h K := by
  intro hl
  refine vx_ofW (cc := M.2.1) (maxL := M.2.2.1) (ret := M.2.2.2.1) hp rfl ?_
  intro p e s m args below meth c s₁ B hml htab hP
  obtain ⟨hargs, hS, hR⟩ := hP
  have hts0 : ∀ w ∈ wsOf y M, w.before args s = true := atoms_spec (ws := wsOf y M) B.pre
  have hown : s.vm.findClass M.1 = some m.cls := by
    rw [hc]
    exact findClass_of_methodNamed B.named
  have hname : meth.name = M.2.2.2.2.1 := by
    rw [hn]
    exact (name_of_methodNamed B.named B.method).1
  have htb : c.exceptionTable.toList = tableOf M.2.2.2.2.2 := by
    rw [ht]
    cases hz : c.exceptionTable.toList with
    | nil => rfl
    | cons x r => exact (htab x (by rw [hz]; exact List.mem_cons_self)).elim
  rw [hargs, lg_entry_eq]
  exact k p e _ s m _ below meth c s.heap [] 0 0 b (16 * b) _ ⟨B.exec, B.bytes, hml, hown, fun w hw => by rw [← hargs]; exact hts0 w (List.mem_cons_of_mem _ hw), B.notSynchronized, ⟨B.returns, hname⟩, hl, hS, va_S.rf, hR, Nat.le_refl _, Nat.le_refl _, by omega, by omega, Nat.le_refl _, Nat.le_refl _⟩ (lv_start ho hn2 hL) htb
theorem Ct.mono {y : MethodName} {as : List AV} {K' : Ou → HP → Prop} (c : Ct Γ l d b y M as h K) (hK : ∀ o h', K o h' → K' o h') : Ct Γ l d b y M as h K' := by
  intro hl p e ha hc hk s m args below hf hs hp ht
  obtain ⟨k, o, h1, h2, h3, hQ⟩ := c hl p e ha hc hk s m args below hf hs hp ht
  refine ⟨k, o, h1, h2, h3, ?_⟩
  rcases hQ with ⟨⟨v, h', e1, e2, e3⟩, hF⟩ | ⟨q, e1, E, ce, L9, ⟨h', e2, e3⟩, e4⟩
  · exact Or.inl ⟨⟨v, h', e1, hK _ _ e2, e3⟩, hF⟩
  · exact Or.inr ⟨q, e1, E, ce, L9, ⟨h', hK _ _ e2, e3⟩, e4⟩
theorem AW.mono {K' : Ou → HP → Prop} (c : AW Γ l M d b pc L S h K) (hK : ∀ o h', K o h' → K' o h') : AW Γ l M d b pc L S h K' := by
  intro p e R s m args below meth c0 H locs cells slots mc ms ls C hl hx T hT X
  obtain ⟨t, a1, o, b1, b2, b3⟩ := c p e R s m args below meth c0 H locs cells slots mc ms ls C hl hx T hT X
  refine ⟨t, a1, o, b1, b2, ?_⟩
  rcases b3 with ⟨⟨v, h', e1, e2, e3⟩, hF⟩ | ⟨q, e1, E, ce, L9, ⟨h', e2, e3⟩, e4⟩
  · exact Or.inl ⟨⟨v, h', e1, hK _ _ e2, e3⟩, hF⟩
  · exact Or.inr ⟨q, e1, E, ce, L9, ⟨h', hK _ _ e2, e3⟩, e4⟩
theorem aw_iret {x : Int} (dg : decode M.2.1 pc = .ok (.ireturn, 1)) (hr : M.2.2.2.1 = some .int) (k : K (.inl (vI x)) h) : AW Γ l M d b pc L (vI x :: []) h K := by
  intro p e R s m args below meth c H locs cells slots mc ms ls C0 hls hx
  obtain ⟨hx0, hb, hml, hown, hts, hlk, hret, hst, hS, hv, hR, hf, hlo, hc1, hc2, hc3, hc4⟩ := C0
  refine W.widen (k := mc) (n := ms) (by omega) (by omega) (vx_ret ?_)
  exact W.iret hx0 hb (hret.1.trans hr) (fun t ht _ => ⟨vI x, h, rfl, k, by rw [ht]; exact hR⟩) (fun q hq => hv.2.2 q hq) dg hlk
theorem aw_zret {x : Int} {ty : FieldType} (dg : decode M.2.1 pc = .ok (.ireturn, 1)) (hr : M.2.2.2.1 = some ty) (hn : narrow ty (.int (Int32.ofInt x)) = .int (Int32.ofInt x)) (k : K (.inl (vI x)) h) : AW Γ l M d b pc L (vI x :: []) h K := by
  intro p e R s m args below meth c H locs cells slots mc ms ls C0 hls hx
  obtain ⟨hx0, hb, hml, hown, hts, hlk, hret, hst, hS, hv, hR, hf, hlo, hc1, hc2, hc3, hc4⟩ := C0
  refine W.widen (k := mc) (n := ms) (by omega) (by omega) (vx_ret ?_)
  exact W.zret hx0 hb (hret.1.trans hr) hn (fun t ht _ => ⟨vI x, h, rfl, k, by rw [ht]; exact hR⟩) (fun q hq => hv.2.2 q hq) dg hlk
theorem aw_vret (dg : decode M.2.1 pc = .ok (.return_, 1)) (hr : M.2.2.2.1 = none) (k : K (.inl vU) h) : AW Γ l M d b pc L [] h K := by
  intro p e R s m args below meth c H locs cells slots mc ms ls C0 hls hx
  obtain ⟨hx0, hb, hml, hown, hts, hlk, hret, hst, hS, hv, hR, hf, hlo, hc1, hc2, hc3, hc4⟩ := C0
  refine W.widen (k := mc) (n := ms) (by omega) (by omega) (vx_ret ?_)
  exact W.vret hx0 hb (hret.1.trans hr) (fun t ht _ => ⟨vU, h, rfl, k, by rw [ht]; exact hR⟩) (fun q hq => hv.2.2 q hq) dg hlk
theorem va_rf_cases (r : Option Nat) : va_rf r = .null ∨ ∃ a, va_rf r = .ref a := by
  cases r with
  | none => exact Or.inl rfl
  | some a => exact Or.inr ⟨a, rfl⟩
theorem aw_aret {x : Int} {n : String} (dg : decode M.2.1 pc = .ok (.areturn, 1)) (hr : M.2.2.2.1 = some (.object n)) (k : K (.inl (vR x)) h) : AW Γ l M d b pc L (vR x :: []) h K := by
  intro p e R s m args below meth c H locs cells slots mc ms ls C0 hls hx
  obtain ⟨hx0, hb, hml, hown, hts, hlk, hret, hst, hS, hv, hR, hf, hlo, hc1, hc2, hc3, hc4⟩ := C0
  refine W.widen (k := mc) (n := ms) (by omega) (by omega) (vx_ret ?_)
  exact W.aret hx0 hb (hret.1.trans hr) (Or.inl ⟨n, rfl⟩) (va_rf_cases _) (fun t ht _ => ⟨vR x, h, rfl, k, by rw [ht]; exact hR⟩) (fun q hq => hv.2.2 q hq) dg hlk
/-- what is on the stack behind a call -/
def psh (v : AV) (S : List AV) : List AV := match v with
  | .inr (.inr (.inr _)) => S
  | v => v :: S
/-- what a call must come to: the frame goes on behind it, or (here nothing is caught) the caller ends by what was thrown -/
def aft (Γ : Cfg) (l : Launch) (M : MT) (d b : Nat) (pc : Nat) (L S : List AV) (K : Ou → HP → Prop) : Ou → HP → Prop := fun o h' => match o with
  | .inl v => AW Γ l M d b pc L (psh v S) h' K
  | .inr E => K (.inr E) h'
theorem psh_conc {Γ : Cfg} (v : AV) (S : List AV) : (rv Γ v).toList ++ S.map (conc Γ) = (psh v S).map (conc Γ) := by
  obtain x | x | x | x := v <;> rfl
theorem cat_sum {Γ : Cfg} : ∀ (S : List AV), (∀ v ∈ S, oneSlot v) → ((S.map (conc Γ)).map fun v => v.category).sum = S.length
  | [], _ => rfl
  | x :: r, ho => by
    have h1 := cat_sum (Γ := Γ) r (fun v hv => ho v (List.mem_cons_of_mem _ hv))
    have hc : (conc Γ x).category = 1 := conc_cat (ho x List.mem_cons_self)
    simp only [List.map_cons, List.sum_cons, List.length_cons, hc, h1]
    omega
/-- from the run of a call to the frame behind it (nothing is caught here) -/
theorem aw_ran {h9 : HP} {b2 b3 : Nat} {S0 : List AV} {p : Program} {e : Env} {R : Room} {s : State} {m : MethodId} {args : Array Value} {below : List Frame} {meth : Method} {c : Code} {H : Heap} {locs : List Loc} {cells slots mc ms : Nat} {ls : Array Slot} {as : Array Value}
    (C0 : Ctx Γ l M d b p R s m args meth c H locs cells slots mc ms h9) (hls : lv_has ls M.2.2.1 (lvl Γ 0 L)) (hx : c.exceptionTable.toList = tableOf M.2.2.2.2.2) (ht : M.2.2.2.2.2 = []) (hb23 : b2 + b3 ≤ b)
    (hr : vx_Run p l e R s m args below meth c H locs cells slots b2 (16 * b2) (F0 m pc ls (S0.map (conc Γ))) (S.map (conc Γ)) (QcK Γ (aft Γ l M d b3 (pc + 3) L S K) as) (XcK Γ (aft Γ l M d b3 (pc + 3) L S K)) (own0 Γ)) :
    W p l e R s m args below meth c H locs cells slots (vx_MQ below (QcK Γ K) (XcK Γ K) args s mc ms (own0 Γ)) (F0 m pc ls (S0.map (conc Γ))) := by
  obtain ⟨hx0, hb, hml, hown, hts, hlk, hret, hst, hS, hv, hR, hf, hlo, hc1, hc2, hc3, hc4⟩ := C0
  intro T hT X
  have keepS : ∀ {T' : State} {L' : List Loc} {c9 s9 : Nat}, Stand p l e R s m args below meth c T' (locs ++ L') c9 s9 → (∀ q ∈ L', own0 Γ q.base) → va_S (own0 Γ) s.heap T'.heap (locs ++ L') := by
    intro T' L' c9 s9 X' hL
    have hF := vx_frame (U := T') X'.same
    have hb9 : ∀ z ∈ locs ++ L', own0 Γ z.base := fun z hz => by
      rcases List.mem_append.mp hz with h | h
      · exact hv.2.2 z h
      · exact hL z h
    exact ⟨hF.1, fun q h1 h2 => hF.2 q h1 (fun z hz e => h2 (e ▸ hb9 z hz)), hb9⟩
  rcases hr T hT X with ⟨v, st₀, t, T', L', h0, X', hL, e1, e2, ⟨v', h', hv', hk, hR'⟩, st⟩ | ⟨q, st₀, t, T', L', E, ce, h0, X', hL, e1, e2, ⟨h', hk, hR'⟩, hce, hcv, hcl, st⟩
  · have hvv : v = rv Γ v' := by
      have := hv'
      simp only [Outcome.returned.injEq] at this
      exact this
    have k1 : AW Γ l M d b3 (pc + 3) L (psh v' S) h' K := hk
    have k2 := k1 p e R s m args below meth c T'.heap (locs ++ L') (cells + b2) (slots + 16 * b2) mc ms ls ⟨hx0, hb, hml, hown, hts, hlk, hret, hst, hS, keepS X' hL, by rw [e1]; exact hR', hf, hlo, by omega, by omega, hc3, hc4⟩ hls hx
    obtain ⟨t2, a1, b1⟩ := k2 T' rfl X'
    refine ⟨t2, st t2 ?_, b1⟩
    rw [← psh_conc, ← hvv] at a1
    exact a1
  · have hout : ∀ x ∈ c.exceptionTable.toList, covers x pc = false := by
      rw [hx, ht]
      intro x hx
      cases hx
    have hkk : K (.inr E) h' := hk
    have k2 : vx_W p l e R s m args below meth c T'.heap (locs ++ L') (cells + b2) (slots + 16 * b2) (vx_MQ below (QcK Γ K) (XcK Γ K) args s mc ms (own0 Γ)) (F0 m pc ls (S.map (conc Γ))) q :=
      vx_out hout hlk (by rw [e1]; exact hce) hcv hcl (fun t2 ht2 _ => ⟨h', hkk, by rw [ht2, e1]; exact hR'⟩) (keepS X' hL).2.2 (by omega) (by omega)
    obtain ⟨t2, a1, b1⟩ := k2 T' rfl X'
    exact ⟨t2, st.trans a1, b1⟩
theorem pay_gw {args : Array Value} {s : State} {y : MethodName} {M2 : MT} (hts : ∀ w ∈ gw, w.before args s = true) (hc : Cond.code y M2.2.1 M2.2.2.1 M2.2.2.2.1 ∈ gw) : ∀ w ∈ wsOf y M2, ∀ (a' : Array Value) (U : State), s.WarmedH U.vm → w.before a' U = true := by
  intro w hw a' U hW
  have hm : w ∈ gw := by
    rcases List.mem_cons.mp hw with rfl | h
    · exact hc
    · exact h
  exact word_at hW (good_of_word (List.mem_filter.mp hm).2) (hts w hm)
theorem PcG_blind (as : List AV) : FrameBlind (PcG Γ h as) := fun a U g mk q => ⟨q.1, StS.same (s := U) rfl q.2.1, q.2.2⟩
theorem PcG_at {p : Program} {R : Room} {s : State} {m : MethodId} {args : Array Value} {meth : Method} {c : Code} {H : Heap} {locs : List Loc} {cells slots mc ms : Nat} {as : List AV} (C0 : Ctx Γ l M d b p R s m args meth c H locs cells slots mc ms h) :
    ∀ U : State, U.heap = H → s.WarmedH U.vm → PcG Γ h as (as.map (conc Γ)).toArray U := by
  intro U hU hW
  obtain ⟨hx0, hb, hml, hown, hts, hlk, hret, hst, hS, hv, hR, hrest⟩ := C0
  refine ⟨rfl, ?_, by rw [hU]; exact hR⟩
  rw [hU]
  exact StS.warm hW (hS.kept hv.1 hv.2.1)
/-- the words of a call: the method's own, and how it is linked -/
def callW (M : MT) (idx : Nat) (y : MethodName) (M2 : MT) (n : Nat) : Prop :=
  Cond.code y M2.2.1 M2.2.2.1 M2.2.2.2.1 ∈ gw ∧ Cond.initialized y.cls ∈ gw ∧ (y.cls ≠ "java/lang/invoke/MethodHandle" ∧ y.cls ≠ "java/lang/invoke/VarHandle") ∧ (parseMethodDescriptor y.desc).map (fun d => d.parameters.length) = some n ∧ M2.2.2.1 ≤ 40
theorem callW.hlen {idx n : Nat} {y : MethodName} {M2 : MT} (w : callW M idx y M2 n) : ∀ sig, parseMethodDescriptor y.desc = some sig → n = sig.parameters.length := by
  intro sig hs
  have h2 := w.2.2.2.1
  rw [hs] at h2
  exact (Option.some.inj h2).symm
/-- a static method of the same or another class -/
theorem aw_callS {y : MethodName} {M2 : MT} {as S0 : List AV} {idx n d2 b2 b3 : Nat} (w : callW M idx y M2 n) (wl9 : Cond.methodLink M.1 idx y ∈ gw) (wst : Cond.static y ∈ gw) (dg : decode M.2.1 pc = .ok (.invokestatic idx, 3)) (ht : M.2.2.2.2.2 = []) (hd : d2 + 1 ≤ d) (hb : b2 + b3 ≤ b) (hn : as.length = n) (hS0 : S0 = as.reverse ++ S) (ho : ∀ v ∈ S, oneSlot v) (hs8 : S.length ≤ 8)
    (k : Ct Γ l d2 b2 y M2 as h (aft Γ l M d b3 (pc + 3) L S K)) : AW Γ l M d b pc L S0 h K := by
  intro p e R s m args below meth c H locs cells slots mc ms ls C0 hls hx
  obtain ⟨hx0, hb9, hml, hown, hts, hlk, hret, hst, hS, hv, hR, hf, hlo, hc1, hc2, hc3, hc4⟩ := id C0
  refine aw_ran (as := (as.map (conc Γ)).toArray) (S := S) C0 hls hx ht hb ?_
  refine vx_runS (Ts := gw) (nL := M.2.2.1) (own := M.1) (bytes := M2.2.1) (maxL := M2.2.2.1) (ret := M2.2.2.2.1) (n := n) (index := idx) (As := as.map (conc Γ)) ⟨hx0, hb9, hml, hown, hts⟩ (k hst) ⟨⟨rfl, rfl, ?_, ?_, pay_gw hts w.1, List.mem_cons_self, hts _ w.1, hts _ w.2.1, w.2.2.1, callW.hlen w, hts _ wl9⟩, hts _ wst⟩ ⟨PcG_blind as, PcG_at C0⟩ rfl ?_ hls.1 ?_ ?_ dg ⟨by omega, by omega⟩
  · show d2 + 8 + 1 ≤ R.frames
    omega
  · have := w.2.2.2.2
    show 8 + (M2.2.2.1 + 11) + (60 * d2 + 200) ≤ R.locals
    omega
  · rw [List.length_map]
    exact hn
  · show S0.map (conc Γ) = _
    rw [hS0, List.map_append, List.map_reverse]
  · have := cat_sum (Γ := Γ) S ho
    show 2 * 0 + _ ≤ 8
    omega
/-- an instance method -/
theorem aw_callV {y : MethodName} {M2 : MT} {as S0 : List AV} {idx n d2 b2 b3 ci N : Nat} {t : Int} {T9 : u_T} (w : callW M idx y M2 n) (wl9 : Cond.methodLink M.1 idx y ∈ gw) (win : Cond.instanceMethod y ∈ gw) (wse : Cond.selects y.cls y y ∈ gw) (dg : decode M.2.1 pc = .ok (.invokevirtual idx, 3)) (ht : M.2.2.2.2.2 = []) (hcl : vwCl[ci]? = some (y.cls, T9, N)) (hO : isO h t ci) (hd : d2 + 1 ≤ d) (hb : b2 + b3 ≤ b) (hn : as.length = n) (hS0 : S0 = as.reverse ++ vR t :: S) (ho : ∀ v ∈ S, oneSlot v) (hs8 : S.length ≤ 8)
    (k : Ct Γ l d2 b2 y M2 (vR t :: as) h (aft Γ l M d b3 (pc + 3) L S K)) : AW Γ l M d b pc L S0 h K := by
  intro p e R s m args below meth c H locs cells slots mc ms ls C0 hls hx
  obtain ⟨hx0, hb9, hml, hown, hts, hlk, hret, hst, hS, hv, hR, hf, hlo, hc1, hc2, hc3, hc4⟩ := id C0
  refine aw_ran (as := (Value.ref (ad Γ t) :: as.map (conc Γ)).toArray) (S := S) C0 hls hx ht hb ?_
  have hci := vw_cl_lt hcl
  obtain ⟨t1, t2⟩ := isO_lt hci hO
  obtain ⟨q0, hq0⟩ := wl_get (Γ := Γ) (h := h) t1 t2 hO.2
  rw [ent_obj hci hO.1] at hq0
  have hct : conc Γ (vR t) = .ref (ad Γ t) := by
    show va_rf (rf Γ t) = _
    rw [rf_ad t1]
    rfl
  have hpc := PcG_at (as := vR t :: as) C0
  rw [List.map_cons, hct] at hpc
  refine vx_runV (C := y.cls) (b := ad Γ t) (Ts := gw) (nL := M.2.2.1) (own := M.1) (bytes := M2.2.1) (maxL := M2.2.2.1) (ret := M2.2.2.2.1) (n := n) (index := idx) (As := as.map (conc Γ)) ⟨hx0, hb9, hml, hown, hts⟩ (k hst) ⟨⟨rfl, rfl, ?_, ?_, pay_gw hts w.1, List.mem_cons_self, hts _ w.1, hts _ w.2.1, w.2.2.1, callW.hlen w, hts _ wl9⟩, hts _ win, hts _ wse⟩ ⟨PcG_blind (vR t :: as), va_recv hS.1 hR.1 hcl hq0, hpc⟩ rfl ?_ hls.1 ?_ ?_ dg ⟨by omega, by omega⟩
  · show d2 + 8 + 1 ≤ R.frames
    omega
  · have := w.2.2.2.2
    show 8 + (M2.2.2.1 + 11) + (60 * d2 + 200) ≤ R.locals
    omega
  · rw [List.length_map]
    exact hn
  · show S0.map (conc Γ) = _
    rw [hS0, List.map_append, List.map_reverse, List.map_cons, hct]
  · have := cat_sum (Γ := Γ) S ho
    show 2 * 0 + _ ≤ 8
    omega
end AMC
