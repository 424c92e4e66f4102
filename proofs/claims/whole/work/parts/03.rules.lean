/-! RULES OF AW: numbers, branches -/
theorem wr_id {x : Int} (h1 : -2147483648 ≤ x) (h2 : x < 2147483648) : wr x = x := Int32.toInt_ofInt_of_le h1 h2
theorem wr_lo (x : Int) : -2147483648 ≤ wr x := Int32.le_toInt _
theorem wr_hi (x : Int) : wr x < 2147483648 := Int32.toInt_lt _
theorem ofInt_wr (x : Int) : Int32.ofInt (wr x) = Int32.ofInt x := Int32.ofInt_toInt _
theorem wr_wr (x : Int) : wr (wr x) = wr x := by unfold wr; rw [Int32.ofInt_toInt]
theorem wr_eq {x y : Int} : Int32.ofInt x = Int32.ofInt y ↔ wr x = wr y := Int32.toInt_inj.symm
theorem wr_lt {x y : Int} : Int32.ofInt x < Int32.ofInt y ↔ wr x < wr y := Int32.lt_iff_toInt_lt
theorem wr_le {x y : Int} : Int32.ofInt x ≤ Int32.ofInt y ↔ wr x ≤ wr y := Int32.le_iff_toInt_le
theorem wr_0 : wr 0 = 0 := by decide +kernel
theorem wr_eq0 {x : Int} : Int32.ofInt x = 0 ↔ wr x = 0 := by rw [show (0 : Int32) = Int32.ofInt 0 by decide +kernel, wr_eq, wr_0]
theorem wr_lt0 {x : Int} : Int32.ofInt x < 0 ↔ wr x < 0 := by rw [show (0 : Int32) = Int32.ofInt 0 by decide +kernel, wr_lt, wr_0]
theorem wr_le0 {x : Int} : Int32.ofInt x ≤ 0 ↔ wr x ≤ 0 := by rw [show (0 : Int32) = Int32.ofInt 0 by decide +kernel, wr_le, wr_0]
theorem wr_0lt {x : Int} : 0 < Int32.ofInt x ↔ 0 < wr x := by rw [show (0 : Int32) = Int32.ofInt 0 by decide +kernel, wr_lt, wr_0]
theorem wr_0le {x : Int} : 0 ≤ Int32.ofInt x ↔ 0 ≤ wr x := by rw [show (0 : Int32) = Int32.ofInt 0 by decide +kernel, wr_le, wr_0]
def iAnd (x y : Int) : Int := (Int32.ofInt x &&& Int32.ofInt y).toInt
def iOr (x y : Int) : Int := (Int32.ofInt x ||| Int32.ofInt y).toInt
def iXor (x y : Int) : Int := (Int32.ofInt x ^^^ Int32.ofInt y).toInt
def iShl (x y : Int) : Int := (Int32.ofInt x <<< (Int32.ofInt y &&& 31)).toInt
def iShr (x y : Int) : Int := (Int32.ofInt x >>> (Int32.ofInt y &&& 31)).toInt
def iUsh (x y : Int) : Int := ((Int32.ofInt x).toUInt32 >>> ((Int32.ofInt y).toUInt32 &&& Int32.toUInt32 31)).toInt32.toInt
def iB (x : Int) : Int := (Int32.ofInt x).toInt8.toInt32.toInt
def iDiv (x y : Int) : Int := (Int32.ofInt x / Int32.ofInt y).toInt
def iRem (x y : Int) : Int := (Int32.ofInt x - Int32.ofInt x / Int32.ofInt y * Int32.ofInt y).toInt
def iMax (x y : Int) : Int := if wr x < wr y then y else x
def iMin (x y : Int) : Int := if wr y < wr x then y else x
def lCmp (x y : Int) : Int := (lg_cmp (Int64.ofInt x) (Int64.ofInt y)).toInt
theorem cI (z : Int32) : Value.int (Int32.ofInt z.toInt) = Value.int z := by rw [Int32.ofInt_toInt]
section AMN
variable {Γ : Cfg} {l : Launch} {M : MT} {d b pc : Nat} {L S : List AV} {h : HP} {K : Ou → HP → Prop}
theorem AW.top {v w : AV} (e : conc Γ v = conc Γ w) (k : AW Γ l M d b pc L (v :: S) h K) : AW Γ l M d b pc L (w :: S) h K := by
  intro p e' R s m args below meth c H locs cells slots mc ms ls C hl hx
  have := k p e' R s m args below meth c H locs cells slots mc ms ls C hl hx
  simpa only [List.map_cons, e] using this
theorem aw_iadd {x y : Int} (dg : decode M.2.1 pc = .ok (.iadd, 1)) (k : AW Γ l M d b (pc + 1) L (vI (x + y) :: S) h K) : AW Γ l M d b pc L (vI y :: vI x :: S) h K :=
  AW.step k fun hx hb _ _ hl kk => lv_iadd hx hb dg (by have := kk _ hl; simpa only [List.map_cons, conc, Int32.ofInt_add] using this)
theorem aw_isub {x y : Int} (dg : decode M.2.1 pc = .ok (.isub, 1)) (k : AW Γ l M d b (pc + 1) L (vI (x - y) :: S) h K) : AW Γ l M d b pc L (vI y :: vI x :: S) h K :=
  AW.step k fun hx hb _ _ hl kk => lv_isub hx hb dg (by have := kk _ hl; simpa only [List.map_cons, conc, Int32.ofInt_sub] using this)
theorem aw_imul {x y : Int} (dg : decode M.2.1 pc = .ok (.imul, 1)) (k : AW Γ l M d b (pc + 1) L (vI (x * y) :: S) h K) : AW Γ l M d b pc L (vI y :: vI x :: S) h K :=
  AW.step k fun hx hb _ _ hl kk => lv_imul hx hb dg (by have := kk _ hl; simpa only [List.map_cons, conc, Int32.ofInt_mul] using this)
theorem aw_ineg {x : Int} (dg : decode M.2.1 pc = .ok (.ineg, 1)) (k : AW Γ l M d b (pc + 1) L (vI (-x) :: S) h K) : AW Γ l M d b pc L (vI x :: S) h K :=
  AW.step k fun hx hb _ _ hl kk => lv_ineg hx hb dg (by have := kk _ hl; simpa only [List.map_cons, conc, ← Int32.neg_ofInt] using this)
theorem aw_iand {x y : Int} (dg : decode M.2.1 pc = .ok (.iand, 1)) (k : AW Γ l M d b (pc + 1) L (vI (iAnd x y) :: S) h K) : AW Γ l M d b pc L (vI y :: vI x :: S) h K :=
  AW.step k fun hx hb _ _ hl kk => lv_iand hx hb dg (by have := kk _ hl; simpa only [List.map_cons, conc, iAnd, Int32.ofInt_toInt] using this)
theorem aw_ior {x y : Int} (dg : decode M.2.1 pc = .ok (.ior, 1)) (k : AW Γ l M d b (pc + 1) L (vI (iOr x y) :: S) h K) : AW Γ l M d b pc L (vI y :: vI x :: S) h K :=
  AW.step k fun hx hb _ _ hl kk => lv_ior hx hb dg (by have := kk _ hl; simpa only [List.map_cons, conc, iOr, Int32.ofInt_toInt] using this)
theorem aw_ixor {x y : Int} (dg : decode M.2.1 pc = .ok (.ixor, 1)) (k : AW Γ l M d b (pc + 1) L (vI (iXor x y) :: S) h K) : AW Γ l M d b pc L (vI y :: vI x :: S) h K :=
  AW.step k fun hx hb _ _ hl kk => lv_ixor hx hb dg (by have := kk _ hl; simpa only [List.map_cons, conc, iXor, Int32.ofInt_toInt] using this)
theorem aw_ishl {x y : Int} (dg : decode M.2.1 pc = .ok (.ishl, 1)) (k : AW Γ l M d b (pc + 1) L (vI (iShl x y) :: S) h K) : AW Γ l M d b pc L (vI y :: vI x :: S) h K :=
  AW.step k fun hx hb _ _ hl kk => lv_ishl hx hb dg (by have := kk _ hl; simpa only [List.map_cons, conc, iShl, Int32.ofInt_toInt] using this)
theorem aw_ishr {x y : Int} (dg : decode M.2.1 pc = .ok (.ishr, 1)) (k : AW Γ l M d b (pc + 1) L (vI (iShr x y) :: S) h K) : AW Γ l M d b pc L (vI y :: vI x :: S) h K :=
  AW.step k fun hx hb _ _ hl kk => lv_ishr hx hb dg (by have := kk _ hl; simpa only [List.map_cons, conc, iShr, Int32.ofInt_toInt] using this)
theorem aw_iushr {x y : Int} (dg : decode M.2.1 pc = .ok (.iushr, 1)) (k : AW Γ l M d b (pc + 1) L (vI (iUsh x y) :: S) h K) : AW Γ l M d b pc L (vI y :: vI x :: S) h K :=
  AW.step k fun hx hb _ _ hl kk => lv_iushr hx hb dg rfl (by have := kk _ hl; simpa only [List.map_cons, conc, iUsh, Int32.ofInt_toInt] using this)
theorem aw_idiv {x y : Int} (dg : decode M.2.1 pc = .ok (.idiv, 1)) (hy : wr y ≠ 0) (k : AW Γ l M d b (pc + 1) L (vI (iDiv x y) :: S) h K) : AW Γ l M d b pc L (vI y :: vI x :: S) h K :=
  AW.step k fun hx hb _ _ hl kk => lv_idiv hx hb dg (fun e => hy (wr_eq0.mp e)) (by have := kk _ hl; simpa only [List.map_cons, conc, iDiv, Int32.ofInt_toInt] using this)
theorem aw_irem {x y : Int} (dg : decode M.2.1 pc = .ok (.irem, 1)) (hy : wr y ≠ 0) (k : AW Γ l M d b (pc + 1) L (vI (iRem x y) :: S) h K) : AW Γ l M d b pc L (vI y :: vI x :: S) h K :=
  AW.step k fun hx hb _ _ hl kk => lv_irem hx hb dg (fun e => hy (wr_eq0.mp e)) (by have := kk _ hl; simpa only [List.map_cons, conc, iRem, Int32.ofInt_toInt] using this)
theorem aw_i2b {x : Int} (dg : decode M.2.1 pc = .ok (.i2b, 1)) (k : AW Γ l M d b (pc + 1) L (vI (iB x) :: S) h K) : AW Γ l M d b pc L (vI x :: S) h K :=
  AW.step k fun hx hb _ _ hl kk => lv_i2b hx hb dg rfl (by have := kk _ hl; simpa only [List.map_cons, conc, iB, Int32.ofInt_toInt] using this)
theorem aw_i2l {x : Int} (dg : decode M.2.1 pc = .ok (.i2l, 1)) (k : AW Γ l M d b (pc + 1) L (vL (wr x) :: S) h K) : AW Γ l M d b pc L (vI x :: S) h K :=
  AW.step k fun hx hb _ _ hl kk => lv_i2l hx hb dg rfl (by have := kk _ hl; simpa only [List.map_cons, conc, wr, Int64.ofInt_int32ToInt] using this)
theorem aw_lconst {n : Fin 2} (dg : decode M.2.1 pc = .ok (.lconst n, 1)) (k : AW Γ l M d b (pc + 1) L (vL (n : Nat) :: S) h K) : AW Γ l M d b pc L S h K :=
  AW.step k fun hx hb _ _ hl kk => lv_lconst hx hb dg rfl (by have := kk _ hl; simpa only [List.map_cons, conc, Int64.ofInt_eq_ofNat] using this)
theorem aw_lcmp {x y : Int} (dg : decode M.2.1 pc = .ok (.lcmp, 1)) (k : AW Γ l M d b (pc + 1) L (vI (lCmp x y) :: S) h K) : AW Γ l M d b pc L (vL y :: vL x :: S) h K :=
  AW.step k fun hx hb _ _ hl kk => W.lcmp hx hb dg (by have := kk _ hl; simpa only [List.map_cons, conc, lCmp, Int32.ofInt_toInt] using this)
theorem aw_iinc {i : Nat} {n x : Int} (dg : decode M.2.1 pc = .ok (.iinc i n, 3)) (hi : L[i]? = some (vI x)) (hn : i < M.2.2.1) (k : AW Γ l M d b (pc + 3) (L.set i (vI (x + n))) S h K) : AW Γ l M d b pc L S h K :=
  AW.step k fun hx hb _ _ hl kk => by
    obtain ⟨j, hj⟩ := List.getElem?_of_mem (lvl_get L 0 i (vI x) _ hi (rfl : cv Γ (vI x) = _))
    rw [Nat.zero_add] at hj
    exact lv_iinc hx hb dg hl hj rfl hn rfl fun ls' hl' => kk ls' (lvl_set (by rw [cv, Int32.ofInt_add]) hl')
def oneSlot (v : AV) : Prop := match v with
  | .inr (.inr (.inl _)) => False
  | _ => True
theorem conc_cat {v : AV} (h : oneSlot v) : (conc Γ v).category = 1 := by
  obtain x | x | x | x := v
  · rfl
  · show (va_rf _).category = 1
    cases rf Γ x <;> rfl
  · exact h.elim
  · rfl
theorem aw_dup {v : AV} (dg : decode M.2.1 pc = .ok (.dup, 1)) (hv : oneSlot v) (k : AW Γ l M d b (pc + 1) L (v :: v :: S) h K) : AW Γ l M d b pc L (v :: S) h K :=
  AW.step k fun hx hb _ _ hl kk => lv_dup hx hb dg (conc_cat hv) (kk _ hl)
theorem aw_pop {v : AV} (dg : decode M.2.1 pc = .ok (.pop, 1)) (hv : oneSlot v) (k : AW Γ l M d b (pc + 1) L S h K) : AW Γ l M d b pc L (v :: S) h K :=
  AW.step k fun hx hb _ _ hl kk => lv_pop hx hb dg (conc_cat hv) (kk _ hl)
theorem aw_dup2 {v w : AV} (dg : decode M.2.1 pc = .ok (.dup2, 1)) (hv : oneSlot v) (hw : oneSlot w) (k : AW Γ l M d b (pc + 1) L (v :: w :: v :: w :: S) h K) : AW Γ l M d b pc L (v :: w :: S) h K :=
  AW.step k fun hx hb _ _ hl kk => lv_dup2_11 hx hb dg (conc_cat hv) (conc_cat hw) (kk _ hl)
theorem aw_goto {off : Int} {tgt : Nat} (dg : decode M.2.1 pc = .ok (.goto off, 3)) (ht : (pc : Int) + off = (tgt : Int)) (k : AW Γ l M d b tgt L S h K) : AW Γ l M d b pc L S h K :=
  AW.step k fun hx hb _ _ hl kk => lv_goto hx hb dg ht (kk _ hl)
theorem aw_null (dg : decode M.2.1 pc = .ok (.aconst_null, 1)) (k : AW Γ l M d b (pc + 1) L (vR 0 :: S) h K) : AW Γ l M d b pc L S h K :=
  AW.step k fun hx hb _ _ hl kk => lv_null hx hb dg (kk _ hl)
/-- two ways on -/
theorem AW.br {P : Prop} {pc1 pc2 : Nat} {S' : List AV} (kt : P → AW Γ l M d b pc1 L S' h K) (kf : ¬ P → AW Γ l M d b pc2 L S' h K)
    (st : ∀ {p : Program} {e : Env} {R : Room} {s : State} {m : MethodId} {args : Array Value} {below : List Frame} {meth : Method} {c : Code} {H : Heap} {locs : List Loc} {cells slots : Nat} {Q : State → Prop} {ls : Array Slot},
      p.tables.exec = Jvm.exec → c.code = M.2.1 → (P → W p l e R s m args below meth c H locs cells slots Q (F0 m pc1 ls (S'.map (conc Γ)))) → (¬ P → W p l e R s m args below meth c H locs cells slots Q (F0 m pc2 ls (S'.map (conc Γ)))) →
      W p l e R s m args below meth c H locs cells slots Q (F0 m pc ls (S.map (conc Γ)))) : AW Γ l M d b pc L S h K := by
  intro p e R s m args below meth c H locs cells slots mc ms ls C hl hx
  exact st C.1 C.2.1 (fun hp => kt hp p e R s m args below meth c H locs cells slots mc ms ls C hl hx) (fun hp => kf hp p e R s m args below meth c H locs cells slots mc ms ls C hl hx)
theorem aw_icmp_eq {x y : Int} {off : Int} {tgt : Nat} (dg : decode M.2.1 pc = .ok (.if_icmp .eq off, 3)) (ht : (pc : Int) + off = (tgt : Int)) (kt : wr x = wr y → AW Γ l M d b tgt L S h K) (kf : ¬ (wr x = wr y) → AW Γ l M d b (pc + 3) L S h K) : AW Γ l M d b pc L (vI y :: vI x :: S) h K :=
  AW.br kt kf fun hx hb k1 k2 => lv_icmp_eq hx hb dg ht (fun e => k1 (wr_eq.mp e)) (fun e => k2 (fun q => e (wr_eq.mpr q)))
theorem aw_if_eq {x : Int} {off : Int} {tgt : Nat} (dg : decode M.2.1 pc = .ok (.ifCond .eq off, 3)) (ht : (pc : Int) + off = (tgt : Int)) (kt : wr x = 0 → AW Γ l M d b tgt L S h K) (kf : ¬ (wr x = 0) → AW Γ l M d b (pc + 3) L S h K) : AW Γ l M d b pc L (vI x :: S) h K :=
  AW.br kt kf fun hx hb k1 k2 => lv_if_eq hx hb dg ht (fun e => k1 (wr_eq0.mp e)) (fun e => k2 (fun q => e (wr_eq0.mpr q)))
theorem aw_icmp_ne {x y : Int} {off : Int} {tgt : Nat} (dg : decode M.2.1 pc = .ok (.if_icmp .ne off, 3)) (ht : (pc : Int) + off = (tgt : Int)) (kt : ¬ wr x = wr y → AW Γ l M d b tgt L S h K) (kf : ¬ (¬ wr x = wr y) → AW Γ l M d b (pc + 3) L S h K) : AW Γ l M d b pc L (vI y :: vI x :: S) h K :=
  AW.br kt kf fun hx hb k1 k2 => lv_icmp_ne hx hb dg ht (fun e => k1 ((not_congr wr_eq).mp e)) (fun e => k2 (fun q => q (wr_eq.mp e)))
theorem aw_if_ne {x : Int} {off : Int} {tgt : Nat} (dg : decode M.2.1 pc = .ok (.ifCond .ne off, 3)) (ht : (pc : Int) + off = (tgt : Int)) (kt : ¬ wr x = 0 → AW Γ l M d b tgt L S h K) (kf : ¬ (¬ wr x = 0) → AW Γ l M d b (pc + 3) L S h K) : AW Γ l M d b pc L (vI x :: S) h K :=
  AW.br kt kf fun hx hb k1 k2 => lv_if_ne hx hb dg ht (fun e => k1 ((not_congr wr_eq0).mp e)) (fun e => k2 (fun q => q (wr_eq0.mp e)))
theorem aw_icmp_lt {x y : Int} {off : Int} {tgt : Nat} (dg : decode M.2.1 pc = .ok (.if_icmp .lt off, 3)) (ht : (pc : Int) + off = (tgt : Int)) (kt : wr x < wr y → AW Γ l M d b tgt L S h K) (kf : ¬ (wr x < wr y) → AW Γ l M d b (pc + 3) L S h K) : AW Γ l M d b pc L (vI y :: vI x :: S) h K :=
  AW.br kt kf fun hx hb k1 k2 => lv_icmp_lt hx hb dg ht (fun e => k1 (wr_lt.mp e)) (fun e => k2 (fun q => e (wr_lt.mpr q)))
theorem aw_if_lt {x : Int} {off : Int} {tgt : Nat} (dg : decode M.2.1 pc = .ok (.ifCond .lt off, 3)) (ht : (pc : Int) + off = (tgt : Int)) (kt : wr x < 0 → AW Γ l M d b tgt L S h K) (kf : ¬ (wr x < 0) → AW Γ l M d b (pc + 3) L S h K) : AW Γ l M d b pc L (vI x :: S) h K :=
  AW.br kt kf fun hx hb k1 k2 => lv_if_lt hx hb dg ht (fun e => k1 (wr_lt0.mp e)) (fun e => k2 (fun q => e (wr_lt0.mpr q)))
theorem aw_icmp_ge {x y : Int} {off : Int} {tgt : Nat} (dg : decode M.2.1 pc = .ok (.if_icmp .ge off, 3)) (ht : (pc : Int) + off = (tgt : Int)) (kt : wr y ≤ wr x → AW Γ l M d b tgt L S h K) (kf : ¬ (wr y ≤ wr x) → AW Γ l M d b (pc + 3) L S h K) : AW Γ l M d b pc L (vI y :: vI x :: S) h K :=
  AW.br kt kf fun hx hb k1 k2 => lv_icmp_ge hx hb dg ht (fun e => k1 (wr_le.mp e)) (fun e => k2 (fun q => e (wr_le.mpr q)))
theorem aw_if_ge {x : Int} {off : Int} {tgt : Nat} (dg : decode M.2.1 pc = .ok (.ifCond .ge off, 3)) (ht : (pc : Int) + off = (tgt : Int)) (kt : 0 ≤ wr x → AW Γ l M d b tgt L S h K) (kf : ¬ (0 ≤ wr x) → AW Γ l M d b (pc + 3) L S h K) : AW Γ l M d b pc L (vI x :: S) h K :=
  AW.br kt kf fun hx hb k1 k2 => lv_if_ge hx hb dg ht (fun e => k1 (wr_0le.mp e)) (fun e => k2 (fun q => e (wr_0le.mpr q)))
theorem aw_icmp_gt {x y : Int} {off : Int} {tgt : Nat} (dg : decode M.2.1 pc = .ok (.if_icmp .gt off, 3)) (ht : (pc : Int) + off = (tgt : Int)) (kt : wr y < wr x → AW Γ l M d b tgt L S h K) (kf : ¬ (wr y < wr x) → AW Γ l M d b (pc + 3) L S h K) : AW Γ l M d b pc L (vI y :: vI x :: S) h K :=
  AW.br kt kf fun hx hb k1 k2 => lv_icmp_gt hx hb dg ht (fun e => k1 (wr_lt.mp e)) (fun e => k2 (fun q => e (wr_lt.mpr q)))
theorem aw_if_gt {x : Int} {off : Int} {tgt : Nat} (dg : decode M.2.1 pc = .ok (.ifCond .gt off, 3)) (ht : (pc : Int) + off = (tgt : Int)) (kt : 0 < wr x → AW Γ l M d b tgt L S h K) (kf : ¬ (0 < wr x) → AW Γ l M d b (pc + 3) L S h K) : AW Γ l M d b pc L (vI x :: S) h K :=
  AW.br kt kf fun hx hb k1 k2 => lv_if_gt hx hb dg ht (fun e => k1 (wr_0lt.mp e)) (fun e => k2 (fun q => e (wr_0lt.mpr q)))
theorem aw_icmp_le {x y : Int} {off : Int} {tgt : Nat} (dg : decode M.2.1 pc = .ok (.if_icmp .le off, 3)) (ht : (pc : Int) + off = (tgt : Int)) (kt : wr x ≤ wr y → AW Γ l M d b tgt L S h K) (kf : ¬ (wr x ≤ wr y) → AW Γ l M d b (pc + 3) L S h K) : AW Γ l M d b pc L (vI y :: vI x :: S) h K :=
  AW.br kt kf fun hx hb k1 k2 => lv_icmp_le hx hb dg ht (fun e => k1 (wr_le.mp e)) (fun e => k2 (fun q => e (wr_le.mpr q)))
theorem aw_if_le {x : Int} {off : Int} {tgt : Nat} (dg : decode M.2.1 pc = .ok (.ifCond .le off, 3)) (ht : (pc : Int) + off = (tgt : Int)) (kt : wr x ≤ 0 → AW Γ l M d b tgt L S h K) (kf : ¬ (wr x ≤ 0) → AW Γ l M d b (pc + 3) L S h K) : AW Γ l M d b pc L (vI x :: S) h K :=
  AW.br kt kf fun hx hb k1 k2 => lv_if_le hx hb dg ht (fun e => k1 (wr_le0.mp e)) (fun e => k2 (fun q => e (wr_le0.mpr q)))
theorem aw_acmp_eq {x y : Int} {off : Int} {tgt : Nat} (dg : decode M.2.1 pc = .ok (.if_acmp .eq off, 3)) (ht : (pc : Int) + off = (tgt : Int)) (hi : rf Γ x = rf Γ y → x = y) (kt : x = y → AW Γ l M d b tgt L S h K) (kf : ¬ x = y → AW Γ l M d b (pc + 3) L S h K) : AW Γ l M d b pc L (vR y :: vR x :: S) h K :=
  AW.br kt kf fun hx hb k1 k2 => lv_acmp_eq hx hb dg ht (fun e => k1 (hi e)) (fun e => k2 (fun q => e (by rw [q])))
theorem aw_acmp_ne {x y : Int} {off : Int} {tgt : Nat} (dg : decode M.2.1 pc = .ok (.if_acmp .ne off, 3)) (ht : (pc : Int) + off = (tgt : Int)) (hi : rf Γ x = rf Γ y → x = y) (kt : ¬ x = y → AW Γ l M d b tgt L S h K) (kf : x = y → AW Γ l M d b (pc + 3) L S h K) : AW Γ l M d b pc L (vR y :: vR x :: S) h K :=
  AW.br (P := ¬ x = y) kt (fun q => kf (Classical.not_not.mp q)) fun hx hb k1 k2 => lv_acmp_ne hx hb dg ht (fun e => k1 (fun q => e (by rw [q]))) (fun e => k2 (fun q => q (hi e)))
theorem aw_ifnull {x : Int} {off : Int} {tgt : Nat} (dg : decode M.2.1 pc = .ok (.ifnull off, 3)) (ht : (pc : Int) + off = (tgt : Int)) (kt : x = 0 → AW Γ l M d b tgt L S h K) (kf : ¬ x = 0 → AW Γ l M d b (pc + 3) L S h K) : AW Γ l M d b pc L (vR x :: S) h K :=
  AW.br kt kf fun {p e R s m args below meth c H locs cells slots Q ls} hx hb k1 k2 => by
    show W p l e R s m args below meth c H locs cells slots Q (F0 m pc ls (va_rf (rf Γ x) :: S.map (conc Γ)))
    by_cases q : x = 0
    · simp only [rf, if_pos q]
      exact lv_ifnullN hx hb dg ht (k1 q)
    · simp only [rf, if_neg q]
      exact lv_ifnull hx hb dg (k2 q)
theorem aw_ifnonnull {x : Int} {off : Int} {tgt : Nat} (dg : decode M.2.1 pc = .ok (.ifnonnull off, 3)) (ht : (pc : Int) + off = (tgt : Int)) (kt : ¬ x = 0 → AW Γ l M d b tgt L S h K) (kf : x = 0 → AW Γ l M d b (pc + 3) L S h K) : AW Γ l M d b pc L (vR x :: S) h K :=
  AW.br (P := ¬ x = 0) kt (fun q => kf (Classical.not_not.mp q)) fun {p e R s m args below meth c H locs cells slots Q ls} hx hb k1 k2 => by
    show W p l e R s m args below meth c H locs cells slots Q (F0 m pc ls (va_rf (rf Γ x) :: S.map (conc Γ)))
    by_cases q : x = 0
    · simp only [rf, if_pos q]
      exact lv_ifnonnullN hx hb dg (k2 (fun e => e q))
    · simp only [rf, if_neg q]
      exact lv_ifnonnull hx hb dg ht (k1 q)
/-- a table's switch: the case in the table, or none -/
theorem aw_tableswitch {dflt lo hi : Int} {offs : Array Int} {len : Nat} {x : Int} (tg : Nat → Nat) (td : Nat) (dg : decode M.2.1 pc = .ok (.tableswitch dflt lo hi offs, len)) (hd : (pc : Int) + dflt = (td : Int)) (hlo : lo ≤ hi) (ho : ∀ i : Nat, lo + i ≤ hi → ∃ off, offs[i]? = some off ∧ (pc : Int) + off = (tg i : Int))
    (kin : ∀ i : Nat, lo + i ≤ hi → wr x = lo + i → AW Γ l M d b (tg i) L S h K) (kout : wr x < lo ∨ hi < wr x → AW Γ l M d b td L S h K) : AW Γ l M d b pc L (vI x :: S) h K := by
  by_cases q : wr x < lo ∨ hi < wr x
  · exact AW.step (kout q) fun hx hb _ _ hl kk => lv_tableOut hx hb dg q hd (kk _ hl)
  · have q1 : ¬ wr x < lo := fun e => q (Or.inl e)
    have q2 : ¬ hi < wr x := fun e => q (Or.inr e)
    obtain ⟨off, h1, h2⟩ := ho (wr x - lo).toNat (by omega)
    exact AW.step (kin (wr x - lo).toNat (by omega) (by omega)) fun hx hb _ _ hl kk => lv_tableIn hx hb dg q1 q2 h1 h2 (kk _ hl)
end AMN
