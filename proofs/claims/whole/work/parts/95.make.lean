/-! MAKING: the worlds while the constructors run; new objects and rows; Object's constructor; constructors of our own -/
def lkR : List (Int × Int × Int) → Int → Int → Int
  | [] => fun _ _ => 0
  | e :: r => upd2 (lkR r) e.1 e.2.1 e.2.2
def lowR (r : List (Int × Int × Int)) (n : Nat) : Prop := ∀ e ∈ r, e.1 ≤ (n : Int)
abbrev mkw (q : List (Int × Int × Int)) (n : Nat) (r : List (Int × Int × Int)) : HP := (lkR q, lkR r, n)
theorem lkR_hi {n : Nat} {t j : Int} : ∀ {r : List (Int × Int × Int)}, lowR r n → (n : Int) < t → lkR r t j = 0
  | [], _, _ => rfl
  | e :: r, h, ht => by
    have h1 := h e List.mem_cons_self
    show (if j = e.2.1 ∧ t = e.1 then e.2.2 else lkR r t j) = 0
    rw [if_neg (by omega)]
    exact lkR_hi (fun x hx => h x (List.mem_cons_of_mem _ hx)) ht
theorem lowR.up {r : List (Int × Int × Int)} {n m : Nat} (h : lowR r n) (hm : n ≤ m) : lowR r m := fun e he => Int.le_trans (h e he) (Int.ofNat_le.mpr hm)
theorem lowR.put {r : List (Int × Int × Int)} {n : Nat} {t j v : Int} (h : lowR r n) (ht : t ≤ (n : Int)) : lowR ((t, j, v) :: r) n := fun e he => by
  rcases List.mem_cons.mp he with rfl | he
  · exact ht
  · exact h e he
/-- nothing is written above what is made -/
def LW (q : List (Int × Int × Int)) (n : Nat) (r : List (Int × Int × Int)) : Prop := lowR q n ∧ lowR r n
theorem LW.new {q r : List (Int × Int × Int)} {n : Nat} (h : LW q n r) : LW q (n + 1) r := ⟨h.1.up (by omega), h.2.up (by omega)⟩
theorem LW.pq {q r : List (Int × Int × Int)} {n : Nat} {t j v : Int} (h : LW q n r) (ht : t ≤ (n : Int)) : LW ((t, j, v) :: q) n r := ⟨h.1.put ht, h.2⟩
theorem LW.pr {q r : List (Int × Int × Int)} {n : Nat} {t j v : Int} (h : LW q n r) (ht : t ≤ (n : Int)) : LW q n ((t, j, v) :: r) := ⟨h.1, h.2.put ht⟩
theorem ad_n {Γ : Cfg} {n : Nat} {t : Int} (hn : n < 190) (ht : t = (n : Int) + 1) : ad Γ t = Γ.1 + n := by
  rw [ad_lo Γ (by omega)]
  omega
theorem wl_up {Γ : Cfg} {q r : List (Int × Int × Int)} {n : Nat} {t : Int} (hn : n < 190) (ht : t = (n : Int) + 1) :
    wl Γ (mkw q (n + 1) r) = wl Γ (mkw q n r) ++ [(ad Γ t, ent Γ (mkw q (n + 1) r) t)] := by
  rw [ad_n hn ht]
  have e1 : List.range' Γ.1 (n + 1) = List.range' Γ.1 n ++ [Γ.1 + n] := by
    rw [List.range'_concat]
    simp
  show va_pl (List.range' Γ.1 (n + 1)) (fun a => ent Γ (mkw q (n + 1) r) (idOf Γ a)) = va_pl (List.range' Γ.1 n) (fun a => ent Γ (mkw q (n + 1) r) (idOf Γ a)) ++ _
  rw [e1]
  unfold va_pl
  rw [List.map_append]
  have e2 : idOf Γ (Γ.1 + n) = t := by
    unfold idOf
    omega
  show _ ++ [(Γ.1 + n, ent Γ (mkw q (n + 1) r) (idOf Γ (Γ.1 + n)))] = _
  rw [e2]
/-- the world with one cell more, as the heap has it -/
theorem rep_up {Γ : Cfg} {q r : List (Int × Int × Int)} {n : Nat} {t : Int} {H H1 : Heap} (hn : n < 190) (ht : t = (n : Int) + 1) (hR : Rep Γ (mkw q n r) H) (z1 : H1.size = H.size + 1) (o1 : ∀ a : Nat, a < H.size → H1[a]? = H[a]?)
    (hat : va_at Γ.2.2.1 vwCl (ad Γ t, ent Γ (mkw q (n + 1) r) t) H1) : Rep Γ (mkw q (n + 1) r) H1 := by
  have hz : H.size = Γ.1 + n := by
    rcases hR.2 with z | z
    · exact z.2
    · have : n = NN := z.1
      unfold NN at this
      omega
  refine ⟨?_, ?_⟩
  · rw [wl_up hn ht]
    refine (hR.1.kept (fun k x hx => o1 x.1 ((hR.1 k x hx).lt))).app (fun k x hx => ?_)
    have hz : k < 1 := (List.getElem?_eq_some_iff.mp hx).1
    rw [show k = 0 by omega] at hx
    cases hx
    exact hat
  · by_cases z : n + 1 < NN
    · exact Or.inl ⟨z, by rw [z1, hz]; rfl⟩
    · refine Or.inr ⟨?_, ?_⟩
      · show n + 1 = NN
        unfold NN at z ⊢
        omega
      · rw [z1, hz]
        unfold NN at z ⊢
        omega
theorem rep_sz {Γ : Cfg} {q r : List (Int × Int × Int)} {n : Nat} {H : Heap} (hn : n < 190) (hR : Rep Γ (mkw q n r) H) : H.size = Γ.1 + n := by
  rcases hR.2 with z | z
  · exact z.2
  · have : n = NN := z.1
    unfold NN at this
    omega
/-- what a field holds when its object is new -/
def dfK (k : Nat) : Value := if k = 0 then .int 0 else .null
def dfOK (ci N : Nat) (ty : Nat → FieldType) : Bool := decide ((flT ci).length = N) && (List.range N).all fun j => match (flT ci)[j]? with
  | none => false
  | some z => decide (defaultValue (ty j) = dfK z.1)
theorem flv_new {Γ : Cfg} {q r : List (Int × Int × Int)} {n ci N : Nat} {t : Int} {ty : Nat → FieldType} (hd : dfOK ci N ty = true) (hg : ∀ j : Int, lkR q t j = 0) (hr : ∀ j : Int, lkR r t j = 0) :
    ∀ j, j < N → defaultValue (ty j) = vp_V (flv Γ (mkw q n r) t ci) j := by
  intro j hj
  unfold dfOK at hd
  simp only [Bool.and_eq_true, decide_eq_true_eq, List.all_eq_true, List.mem_range] at hd
  have h1 := hd.2 j hj
  cases hq : (flT ci)[j]? with
  | none => rw [hq] at h1; cases h1
  | some z =>
    rw [hq] at h1
    simp only [decide_eq_true_eq] at h1
    rw [h1]
    unfold vp_V flv
    rw [List.getD_eq_getElem?_getD, List.getElem?_map, hq]
    obtain ⟨a, i⟩ := z
    show dfK a = fvl Γ (mkw q n r) t (a, i)
    match a with
    | 0 =>
      show Value.int 0 = .int (Int32.ofInt (lkR q t i))
      rw [hg]
      rfl
    | 1 =>
      show Value.null = va_rf (rf Γ (lkR r t i))
      rw [hr]
      rfl
    | m + 2 =>
      show Value.null = va_rf (rf Γ (lkR q t i))
      rw [hg]
      rfl
section AMM
variable {Γ : Cfg} {l : Launch} {M : MT} {d b pc : Nat} {L S : List AV} {K : Ou → HP → Prop} {n : Nat} {q r : List (Int × Int × Int)}
theorem conc_new {t : Int} (hn : n < 190) (ht : t = (n : Int) + 1) : conc Γ (vR t) = .ref (Γ.1 + n) := by
  show va_rf (rf Γ t) = _
  rw [rf_ad (by omega), ad_n hn ht]
  rfl
/-- an object is made -/
theorem aw_new {C : String} {T : u_T} {N ci idx k b' : Nat} {t : Int} (ty : Nat → FieldType) (hn : n < 190) (ht : t = (n : Int) + 1) (w : LW q n r) (hs : shp t = (10 + ci, 0)) (hc : vwCl[ci]? = some (C, T, N))
    (hcl : Cond.classLink M.1 idx C ∈ gw) (hi9 : Cond.instantiable C N ∈ gw) (hini : Cond.initialized C ∈ gw) (hin : ∀ w ∈ u_ws C T N, w ∈ gw) (hty : ∀ k, k < N → parseFieldDescriptor (T k).2.2.1 = some (ty k)) (hd : dfOK ci N ty = true)
    (dg : decode M.2.1 pc = .ok (.new idx, 3)) (hk : 1 ≤ k ∧ N ≤ 16 * k) (hb' : k + b' ≤ b) (kk : LW q (n + 1) r → AW Γ l M d b' (pc + 3) L (vR t :: S) (mkw q (n + 1) r) K) : AW Γ l M d b pc L S (mkw q n r) K := by
  intro p e R s m args below meth c H locs cells slots mc ms ls C0 hls hx
  obtain ⟨hx0, hb, hml, hown, hts, hlk, hret, hst, hS, hv, hR, hf, hlo, hc1, hc2, hc3, hc4⟩ := C0
  have hci := vw_cl_lt hc
  have hKn := hS.1.1 ci _ hc
  have hz := rep_sz hn hR
  refine W.newcK hx0 hb hown (hts _ hcl) (hts _ hi9) (hts _ hini) rfl dg (by omega) (by omega) hKn.2.1 rfl fun H1 kC hkC e1 z1 o1 => ?_
  have k1 := kk w.new p e R s m args below meth c H1 locs (cells + 1) (slots + N) mc ms ls ⟨hx0, hb, hml, hown, hts, hlk, hret, hst, hS, ⟨Nat.le_trans hv.1 (by omega), fun x h1 h2 => (o1 x (Nat.lt_of_lt_of_le h1 hv.1)).trans (hv.2.1 x h1 h2), hv.2.2⟩, rep_up hn ht hR z1 o1 ?_, hf, hlo, by omega, by omega, hc3, hc4⟩ hls hx
  · rw [List.map_cons, conc_new hn ht, ← hz] at k1
    exact k1
  · rw [ent_obj hci hs, ad_n hn ht, ← hz]
    exact ⟨_, hc, (u_born ty hts hin hKn hkC e1 hty).to (flv_new hd (fun j => lkR_hi w.1 (by omega)) (fun j => lkR_hi w.2 (by omega)))⟩
/-- a row of numbers is made -/
theorem aw_newa {at9 : ArrayType} {ty : FieldType} {kd n9 k b' : Nat} {t : Int} (z : Int) (hn : n < 190) (ht : t = (n : Int) + 1) (w : LW q n r) (hs : shp t = (kd, n9)) (ha : newarray.typeOf at9 = ty) (hk4 : kd < 4) (hkd : tyA[kd]? = some ty) (hw : Cond.arrayClass ty ∈ gw)
    (hz1 : ¬ Int32.ofInt z < 0) (hz2 : (Int32.ofInt z).toNatClampNeg = n9) (hby : n9 * componentBytes ty ≤ 536870912)
    (dg : decode M.2.1 pc = .ok (.newarray at9, 2)) (hk : 1 ≤ k ∧ n9 ≤ 16 * k) (hb' : k + b' ≤ b) (kk : LW q (n + 1) r → AW Γ l M d b' (pc + 2) L (vR t :: S) (mkw q (n + 1) r) K) : AW Γ l M d b pc L (vI z :: S) (mkw q n r) K := by
  intro p e R s m args below meth c H locs cells slots mc ms ls C0 hls hx
  obtain ⟨hx0, hb, hml, hown, hts, hlk, hret, hst, hS, hv, hR, hf, hlo, hc1, hc2, hc3, hc4⟩ := C0
  have hz := rep_sz hn hR
  have hK2 : (tysG Γ)[kd]? = some (Γ.2.2.2.1 kd, ty) := by
    match kd, hk4, hkd with
    | 0, _, h => cases h; rfl
    | 1, _, h => cases h; rfl
    | 2, _, h => cases h; rfl
    | 3, _, h => cases h; rfl
  subst ha
  refine va_newaK hx0 hb (hts _ hw) rfl dg rfl hz1 hz2 hby (by omega) (by omega) rfl fun H1 cA e1 z1 o1 hAr hNm => ?_
  have k1 := kk w.new p e R s m args below meth c H1 locs (cells + 1) (slots + n9) mc ms ls ⟨hx0, hb, hml, hown, hts, hlk, hret, hst, hS, ⟨Nat.le_trans hv.1 (by omega), fun x h1 h2 => (o1 x (Nat.lt_of_lt_of_le h1 hv.1)).trans (hv.2.1 x h1 h2), hv.2.2⟩, rep_up hn ht hR z1 o1 ?_, hf, hlo, by omega, by omega, hc3, hc4⟩ hls hx
  · rw [List.map_cons, conc_new hn ht, ← hz] at k1
    exact k1
  · have hcA : cA = Γ.2.2.2.1 kd := by
      have h2 := (hS.1.2 kd _ hK2).2
      cases at9 <;> exact Option.some.inj (hNm.symm.trans h2)
    subst hcA
    unfold ent
    rw [hs, ad_n hn ht, ← hz]
    have e3 : ∀ j : Nat, lkR q t j = 0 := fun j => lkR_hi w.1 (by omega)
    match kd, hk4, hkd, hK2 with
    | 0, _, h, _ => 
      show H1[H.size]? = some (arrV _ n9 (fun j => .int (Int32.ofInt (lkR q t j))))
      rw [e1, ← Option.some.inj h]
      simp only [e3]
      rfl
    | 1, _, h, _ =>
      show H1[H.size]? = some (arrV _ n9 (fun j => .int (Int32.ofInt (lkR q t j))))
      rw [e1, ← Option.some.inj h]
      simp only [e3]
      rfl
    | 2, _, h, _ =>
      show H1[H.size]? = some (arrV _ n9 (fun j => .int (Int32.ofInt (lkR q t j))))
      rw [e1, ← Option.some.inj h]
      simp only [e3]
      rfl
    | 3, _, h, _ =>
      show H1[H.size]? = some (arrV _ n9 (fun j => .long (Int64.ofInt (lkR q t j))))
      rw [e1, ← Option.some.inj h]
      simp only [e3]
      rfl
/-- a row of references is made -/
theorem aw_newq {C : String} {kd n9 k b' idx : Nat} {t : Int} (z : Int) (hn : n < 190) (ht : t = (n : Int) + 1) (w : LW q n r) (hs : shp t = (kd, n9)) (hkd : (kd, C) = (4, "HalfOaths$Hills") ∨ (kd, C) = (5, "HalfOaths$Sign")) (hw : Cond.classLink M.1 idx C ∈ gw)
    (hz1 : ¬ Int32.ofInt z < 0) (hz2 : (Int32.ofInt z).toNatClampNeg = n9) (hby : n9 * 4 ≤ 536870912)
    (dg : decode M.2.1 pc = .ok (.anewarray idx, 3)) (hk : 1 ≤ k ∧ n9 ≤ 16 * k) (hb' : k + b' ≤ b) (kk : LW q (n + 1) r → AW Γ l M d b' (pc + 3) L (vR t :: S) (mkw q (n + 1) r) K) : AW Γ l M d b pc L (vI z :: S) (mkw q n r) K := by
  intro p e R s m args below meth c H locs cells slots mc ms ls C0 hls hx
  obtain ⟨hx0, hb, hml, hown, hts, hlk, hret, hst, hS, hv, hR, hf, hlo, hc1, hc2, hc3, hc4⟩ := C0
  have hz := rep_sz hn hR
  have hover : va_AO C s := by
    rcases hkd with h | h
    · cases h; exact hS.2.2.2.1.2.2.2.1.1
    · cases h; exact hS.2.2.2.1.2.2.2.1.2
  subst hz2
  refine W.anew hx0 hb hown (hts _ hw) (va_AO.use hover) rfl dg rfl hz1 hby (by omega) (by omega) fun cA kA comp f1 f2 f3 f4 => ?_
  generalize hH1 : H.push ({ cls := cA, slots := Array.replicate (Int32.ofInt z).toNatClampNeg .null, vm := .none } : Cell) = H1
  have z1 : H1.size = H.size + 1 := by rw [← hH1, Array.size_push]
  have e1 : H1[H.size]? = some (arrV cA (Int32.ofInt z).toNatClampNeg (fun _ => .null)) := by rw [← hH1, Array.getElem?_push_size, ← arrV_new]
  have o1 : ∀ a : Nat, a < H.size → H1[a]? = H[a]? := fun a hq => by rw [← hH1, Array.getElem?_push, if_neg (Nat.ne_of_lt hq)]
  have k1 := kk w.new p e R s m args below meth c H1 locs (cells + 1) (slots + (Int32.ofInt z).toNatClampNeg) mc ms ls ⟨hx0, hb, hml, hown, hts, hlk, hret, hst, hS, ⟨Nat.le_trans hv.1 (by omega), fun x h1 h2 => (o1 x (Nat.lt_of_lt_of_le h1 hv.1)).trans (hv.2.1 x h1 h2), hv.2.2⟩, rep_up hn ht hR z1 o1 ?_, hf, hlo, by omega, by omega, hc3, hc4⟩ hls hx
  · rw [List.map_cons, conc_new hn ht, ← hz] at k1
    exact k1
  · unfold ent
    rw [hs, ad_n hn ht, ← hz]
    rcases hkd with h | h
    · cases h
      obtain ⟨kB, comp2, q1, q2, q3, q4⟩ := (hS.1.2 4 (Γ.2.2.2.1 4, .object "HalfOaths$Hills") rfl).2
      have e3 : ∀ j : Nat, lkR r t j = 0 := fun j => lkR_hi w.2 (by omega)
      have hcA : cA = Γ.2.2.2.1 4 := Option.some.inj (f1.symm.trans q4)
      subst hcA
      show H1[H.size]? = some (arrV _ _ (fun j : Nat => va_rf (rf Γ (lkR r t j))))
      rw [e1]
      simp only [e3]
      rfl
    · cases h
      obtain ⟨kB, comp2, q1, q2, q3, q4⟩ := (hS.1.2 5 (Γ.2.2.2.1 5, .object "HalfOaths$Sign") rfl).2
      have e3 : ∀ j : Nat, lkR q t j = 0 := fun j => lkR_hi w.1 (by omega)
      have hcA : cA = Γ.2.2.2.1 5 := Option.some.inj (f1.symm.trans q4)
      subst hcA
      show H1[H.size]? = some (arrV _ _ (fun j : Nat => va_rf (rf Γ (lkR q t j))))
      rw [e1]
      simp only [e3]
      rfl
end AMM
