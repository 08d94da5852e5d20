section AT
variable {X : FX} {g : GT} {lay : List CD} {A : Nat → Prop} {b : ByteArray} {nL kc ks h : Nat} {own : String} {Z : State → Prop} {pc : Nat} {lv : List (Nat × Value)} {st : List Value} {M : Mem}
theorem a_iconst (C : Cx X g lay A b nL own h) {n : Int} (v : Int32) (hd : decode b pc = .ok (.iconst n, 1)) (hv : Int32.ofInt n = v) (K : AtX X g lay A nL kc ks Z (pc + 1) lv (.int v :: st) M) : AtX X g lay A nL kc ks Z (pc) lv (st) M := fun H locs ls hP hS hl => lv_iconst C.1 C.2.1 hd hv (K H locs ls hP hS hl)
theorem a_bipush (C : Cx X g lay A b nL own h) {n : Int} (v : Int32) (hd : decode b pc = .ok (.bipush n, 2)) (hv : (Int8.ofInt n).toInt32 = v) (K : AtX X g lay A nL kc ks Z (pc + 2) lv (.int v :: st) M) : AtX X g lay A nL kc ks Z (pc) lv (st) M := fun H locs ls hP hS hl => lv_bipush C.1 C.2.1 hd hv (K H locs ls hP hS hl)
theorem a_sipush (C : Cx X g lay A b nL own h) {n : Int} (v : Int32) (hd : decode b pc = .ok (.sipush n, 3)) (hv : (Int16.ofInt n).toInt32 = v) (K : AtX X g lay A nL kc ks Z (pc + 3) lv (.int v :: st) M) : AtX X g lay A nL kc ks Z (pc) lv (st) M := fun H locs ls hP hS hl => lv_sipush C.1 C.2.1 hd hv (K H locs ls hP hS hl)
theorem a_ldc (C : Cx X g lay A b nL own h) {idx : Nat} {v : Int32} (hc : Cond.constant own idx v ∈ GW) (hd : decode b pc = .ok (.ldc idx, 2)) (K : AtX X g lay A nL kc ks Z (pc + 2) lv (.int v :: st) M) : AtX X g lay A nL kc ks Z (pc) lv (st) M := fun H locs ls hP hS hl => lv_ldc C.1 C.2.1 C.2.2.2.1 (C.2.2.2.2.1 _ hc) hd (K H locs ls hP hS hl)
theorem a_iload_n (C : Cx X g lay A b nL own h) {k : Fin 4} {x : Int32} (hd : decode b pc = .ok (.iload_n k, 1)) (hk : lv.lookup (k : Nat) = some (.int x)) (K : AtX X g lay A nL kc ks Z (pc + 1) lv (.int x :: st) M) : AtX X g lay A nL kc ks Z (pc) lv (st) M := fun H locs ls hP hS hl => lv_iload_n C.1 C.2.1 hd rfl (hl.get hk) (K H locs ls hP hS hl)
theorem a_iload (C : Cx X g lay A b nL own h) {k : Nat} {x : Int32} (hd : decode b pc = .ok (.iload k, 2)) (hk : lv.lookup k = some (.int x)) (K : AtX X g lay A nL kc ks Z (pc + 2) lv (.int x :: st) M) : AtX X g lay A nL kc ks Z (pc) lv (st) M := fun H locs ls hP hS hl => lv_iload C.1 C.2.1 hd (hl.get hk) (K H locs ls hP hS hl)
theorem a_istore_n (C : Cx X g lay A b nL own h) {k : Fin 4} {x : Int32} (hd : decode b pc = .ok (.istore_n k, 1)) (hk : (k : Nat) < nL) (hz : lv.all (fun q => !(q.1 + 1 == (k : Nat)) || q.2.category == 1) = true) (K : AtX X g lay A nL kc ks Z (pc + 1) (((k : Nat), .int x) :: lv) (st) M) : AtX X g lay A nL kc ks Z (pc) lv (.int x :: st) M := by
  intro H locs ls hP hS hl
  obtain ⟨l, h1, h2⟩ := hl
  exact lv_istore_n C.1 C.2.1 hd rfl h1 hk rfl (fun ls' hl' => K H locs ls' hP hS ⟨_, hl', lvk.filt hz h2⟩)
theorem a_istore (C : Cx X g lay A b nL own h) {k : Nat} {x : Int32} (hd : decode b pc = .ok (.istore k, 2)) (hk : k < nL) (hz : lv.all (fun q => !(q.1 + 1 == k) || q.2.category == 1) = true) (K : AtX X g lay A nL kc ks Z (pc + 2) ((k, .int x) :: lv) (st) M) : AtX X g lay A nL kc ks Z (pc) lv (.int x :: st) M := by
  intro H locs ls hP hS hl
  obtain ⟨l, h1, h2⟩ := hl
  exact lv_istore C.1 C.2.1 hd h1 hk rfl (fun ls' hl' => K H locs ls' hP hS ⟨_, hl', lvk.filt hz h2⟩)
theorem a_aload_n (C : Cx X g lay A b nL own h) {k : Fin 4} {x : Nat} (hd : decode b pc = .ok (.aload_n k, 1)) (hk : lv.lookup (k : Nat) = some (.ref x)) (K : AtX X g lay A nL kc ks Z (pc + 1) lv (.ref x :: st) M) : AtX X g lay A nL kc ks Z (pc) lv (st) M := fun H locs ls hP hS hl => lv_aload_n C.1 C.2.1 hd rfl (hl.get hk) (K H locs ls hP hS hl)
theorem a_aload (C : Cx X g lay A b nL own h) {k : Nat} {x : Nat} (hd : decode b pc = .ok (.aload k, 2)) (hk : lv.lookup k = some (.ref x)) (K : AtX X g lay A nL kc ks Z (pc + 2) lv (.ref x :: st) M) : AtX X g lay A nL kc ks Z (pc) lv (st) M := fun H locs ls hP hS hl => lv_aload C.1 C.2.1 hd (hl.get hk) (K H locs ls hP hS hl)
theorem a_astore_n (C : Cx X g lay A b nL own h) {k : Fin 4} {x : Nat} (hd : decode b pc = .ok (.astore_n k, 1)) (hk : (k : Nat) < nL) (hz : lv.all (fun q => !(q.1 + 1 == (k : Nat)) || q.2.category == 1) = true) (K : AtX X g lay A nL kc ks Z (pc + 1) (((k : Nat), .ref x) :: lv) (st) M) : AtX X g lay A nL kc ks Z (pc) lv (.ref x :: st) M := by
  intro H locs ls hP hS hl
  obtain ⟨l, h1, h2⟩ := hl
  exact lv_astore_n C.1 C.2.1 hd rfl h1 hk rfl (fun ls' hl' => K H locs ls' hP hS ⟨_, hl', lvk.filt hz h2⟩)
theorem a_astore (C : Cx X g lay A b nL own h) {k : Nat} {x : Nat} (hd : decode b pc = .ok (.astore k, 2)) (hk : k < nL) (hz : lv.all (fun q => !(q.1 + 1 == k) || q.2.category == 1) = true) (K : AtX X g lay A nL kc ks Z (pc + 2) ((k, .ref x) :: lv) (st) M) : AtX X g lay A nL kc ks Z (pc) lv (.ref x :: st) M := by
  intro H locs ls hP hS hl
  obtain ⟨l, h1, h2⟩ := hl
  exact lv_astore C.1 C.2.1 hd h1 hk rfl (fun ls' hl' => K H locs ls' hP hS ⟨_, hl', lvk.filt hz h2⟩)
theorem a_lload_n (C : Cx X g lay A b nL own h) {k : Fin 4} {x : Int64} (hd : decode b pc = .ok (.lload_n k, 1)) (hk : lv.lookup (k : Nat) = some (.long x)) (K : AtX X g lay A nL kc ks Z (pc + 1) lv (.long x :: st) M) : AtX X g lay A nL kc ks Z (pc) lv (st) M := fun H locs ls hP hS hl => lv_lload_n C.1 C.2.1 hd rfl (hl.get hk) (K H locs ls hP hS hl)
theorem a_lload (C : Cx X g lay A b nL own h) {k : Nat} {x : Int64} (hd : decode b pc = .ok (.lload k, 2)) (hk : lv.lookup k = some (.long x)) (K : AtX X g lay A nL kc ks Z (pc + 2) lv (.long x :: st) M) : AtX X g lay A nL kc ks Z (pc) lv (st) M := fun H locs ls hP hS hl => lv_lload C.1 C.2.1 hd (hl.get hk) (K H locs ls hP hS hl)
theorem a_lstore_n (C : Cx X g lay A b nL own h) {k : Fin 4} {x : Int64} (hd : decode b pc = .ok (.lstore_n k, 1)) (hk : (k : Nat) + 1 < nL) (hz : lv.all (fun q => !(q.1 == (k : Nat) + 1) && (!(q.1 + 1 == (k : Nat)) || q.2.category == 1)) = true) (K : AtX X g lay A nL kc ks Z (pc + 1) (((k : Nat), .long x) :: lv) (st) M) : AtX X g lay A nL kc ks Z (pc) lv (.long x :: st) M := by
  intro H locs ls hP hS hl
  obtain ⟨l, h1, h2⟩ := hl
  exact lv_lstore_n C.1 C.2.1 hd rfl h1 hk rfl (fun ls' hl' => K H locs ls' hP hS ⟨_, hl', lvk.filt2 hz h2⟩)
theorem a_lstore (C : Cx X g lay A b nL own h) {k : Nat} {x : Int64} (hd : decode b pc = .ok (.lstore k, 2)) (hk : k + 1 < nL) (hz : lv.all (fun q => !(q.1 == k + 1) && (!(q.1 + 1 == k) || q.2.category == 1)) = true) (K : AtX X g lay A nL kc ks Z (pc + 2) ((k, .long x) :: lv) (st) M) : AtX X g lay A nL kc ks Z (pc) lv (.long x :: st) M := by
  intro H locs ls hP hS hl
  obtain ⟨l, h1, h2⟩ := hl
  exact lv_lstore C.1 C.2.1 hd h1 hk rfl (fun ls' hl' => K H locs ls' hP hS ⟨_, hl', lvk.filt2 hz h2⟩)
theorem a_lconst (C : Cx X g lay A b nL own h) {n : Fin 2} (v : Int64) (hd : decode b pc = .ok (.lconst n, 1)) (hv : Int64.ofNat (n : Nat) = v) (K : AtX X g lay A nL kc ks Z (pc + 1) lv (.long v :: st) M) : AtX X g lay A nL kc ks Z (pc) lv (st) M := fun H locs ls hP hS hl => lv_lconst C.1 C.2.1 hd hv (K H locs ls hP hS hl)
theorem a_topl {x : Int64} (K : ∀ y, y = x → AtX X g lay A nL kc ks Z (pc) lv (.long y :: st) M) : AtX X g lay A nL kc ks Z (pc) lv (.long x :: st) M := K x rfl
theorem a_case (v : Int32) {x : Int32} (K : x = v → AtX X g lay A nL kc ks Z (pc) lv (.int v :: st) M) (K2 : ¬ x = v → AtX X g lay A nL kc ks Z (pc) lv (.int x :: st) M) : AtX X g lay A nL kc ks Z (pc) lv (.int x :: st) M := if e : x = v then e ▸ K e else K2 e
theorem ne_toInt {x v : Int32} {z : Int} (h : ¬ x = v) (hz : v.toInt = z) : x.toInt ≠ z := fun e => h (Int32.toInt_inj.mp (e.trans hz.symm))
theorem a_tswI (C : Cx X g lay A b nL own h) {dflt lo hi : Int} {offs : Array Int} {len : Nat} {v : Int32} (off : Int) (tgt : Nat) (hd : decode b pc = .ok (.tableswitch dflt lo hi offs, len)) (hc : decide (¬ v.toInt < lo ∧ ¬ hi < v.toInt ∧ offs[(v.toInt - lo).toNat]? = some off) = true) (ht : (pc : Int) + off = (tgt : Int)) (K : AtX X g lay A nL kc ks Z (tgt) lv (st) M) : AtX X g lay A nL kc ks Z (pc) lv (.int v :: st) M := by
  have hc := of_decide_eq_true hc
  exact fun H locs ls hP hS hl => lv_tableIn C.1 C.2.1 hd hc.1 hc.2.1 hc.2.2 ht (K H locs ls hP hS hl)
theorem a_tswO (C : Cx X g lay A b nL own h) {dflt lo hi : Int} {offs : Array Int} {len : Nat} {x : Int32} (tgt : Nat) (hd : decode b pc = .ok (.tableswitch dflt lo hi offs, len)) (hc : x.toInt < lo ∨ hi < x.toInt) (ht : (pc : Int) + dflt = (tgt : Int)) (K : AtX X g lay A nL kc ks Z (tgt) lv (st) M) : AtX X g lay A nL kc ks Z (pc) lv (.int x :: st) M := fun H locs ls hP hS hl => lv_tableOut C.1 C.2.1 hd hc ht (K H locs ls hP hS hl)
theorem a_lsw (C : Cx X g lay A b nL own h) {dflt : Int} {prs : Array (Int × Int)} {len : Nat} {x : Int32} (off : Int) (tgt : Nat) (hd : decode b pc = .ok (.lookupswitch dflt prs, len)) (hp : (prs.toList.zip (prs.toList.drop 1)).all (fun (a, next) => a.1 < next.1) = true) (ho : Op.lookupswitch.offset prs.toList dflt x.toInt = off) (ht : (pc : Int) + off = (tgt : Int)) (K : AtX X g lay A nL kc ks Z (tgt) lv (st) M) : AtX X g lay A nL kc ks Z (pc) lv (.int x :: st) M := fun H locs ls hP hS hl => lv_lookup C.1 C.2.1 hd hp ho ht (K H locs ls hP hS hl)
theorem a_iinc (C : Cx X g lay A b nL own h) {k : Nat} {n : Int} {x : Int32} (v : Int32) (hd : decode b pc = .ok (.iinc k n, 3)) (hk : lv.lookup k = some (.int x)) (hv : Int32.ofInt n = v) (hn : k < nL) (hz : lv.all (fun q => !(q.1 + 1 == k) || q.2.category == 1) = true) (K : AtX X g lay A nL kc ks Z (pc + 3) ((k, .int (x + v)) :: lv) (st) M) : AtX X g lay A nL kc ks Z (pc) lv (st) M := by
  intro H locs ls hP hS hl
  obtain ⟨l, h1, h2⟩ := hl
  subst hv
  obtain ⟨j, hj⟩ := List.getElem?_of_mem (h2 k _ hk)
  exact lv_iinc C.1 C.2.1 hd h1 hj rfl hn rfl (fun ls' hl' => K H locs ls' hP hS ⟨_, hl', lvk.filt hz h2⟩)
theorem a_iadd (C : Cx X g lay A b nL own h) {x y : Int32} (hd : decode b pc = .ok (.iadd, 1)) (K : AtX X g lay A nL kc ks Z (pc + 1) lv (.int (x + y) :: st) M) : AtX X g lay A nL kc ks Z (pc) lv (.int y :: .int x :: st) M := fun H locs ls hP hS hl => lv_iadd C.1 C.2.1 hd (K H locs ls hP hS hl)
theorem a_isub (C : Cx X g lay A b nL own h) {x y : Int32} (hd : decode b pc = .ok (.isub, 1)) (K : AtX X g lay A nL kc ks Z (pc + 1) lv (.int (x - y) :: st) M) : AtX X g lay A nL kc ks Z (pc) lv (.int y :: .int x :: st) M := fun H locs ls hP hS hl => lv_isub C.1 C.2.1 hd (K H locs ls hP hS hl)
theorem a_imul (C : Cx X g lay A b nL own h) {x y : Int32} (hd : decode b pc = .ok (.imul, 1)) (K : AtX X g lay A nL kc ks Z (pc + 1) lv (.int (x * y) :: st) M) : AtX X g lay A nL kc ks Z (pc) lv (.int y :: .int x :: st) M := fun H locs ls hP hS hl => lv_imul C.1 C.2.1 hd (K H locs ls hP hS hl)
theorem a_iand (C : Cx X g lay A b nL own h) {x y : Int32} (hd : decode b pc = .ok (.iand, 1)) (K : AtX X g lay A nL kc ks Z (pc + 1) lv (.int (x &&& y) :: st) M) : AtX X g lay A nL kc ks Z (pc) lv (.int y :: .int x :: st) M := fun H locs ls hP hS hl => lv_iand C.1 C.2.1 hd (K H locs ls hP hS hl)
theorem a_ior (C : Cx X g lay A b nL own h) {x y : Int32} (hd : decode b pc = .ok (.ior, 1)) (K : AtX X g lay A nL kc ks Z (pc + 1) lv (.int (x ||| y) :: st) M) : AtX X g lay A nL kc ks Z (pc) lv (.int y :: .int x :: st) M := fun H locs ls hP hS hl => lv_ior C.1 C.2.1 hd (K H locs ls hP hS hl)
theorem a_ixor (C : Cx X g lay A b nL own h) {x y : Int32} (hd : decode b pc = .ok (.ixor, 1)) (K : AtX X g lay A nL kc ks Z (pc + 1) lv (.int (x ^^^ y) :: st) M) : AtX X g lay A nL kc ks Z (pc) lv (.int y :: .int x :: st) M := fun H locs ls hP hS hl => lv_ixor C.1 C.2.1 hd (K H locs ls hP hS hl)
theorem a_ishl (C : Cx X g lay A b nL own h) {x y : Int32} (hd : decode b pc = .ok (.ishl, 1)) (K : AtX X g lay A nL kc ks Z (pc + 1) lv (.int (x <<< (y &&& 31)) :: st) M) : AtX X g lay A nL kc ks Z (pc) lv (.int y :: .int x :: st) M := fun H locs ls hP hS hl => lv_ishl C.1 C.2.1 hd (K H locs ls hP hS hl)
theorem a_ishr (C : Cx X g lay A b nL own h) {x y : Int32} (hd : decode b pc = .ok (.ishr, 1)) (K : AtX X g lay A nL kc ks Z (pc + 1) lv (.int (x >>> (y &&& 31)) :: st) M) : AtX X g lay A nL kc ks Z (pc) lv (.int y :: .int x :: st) M := fun H locs ls hP hS hl => lv_ishr C.1 C.2.1 hd (K H locs ls hP hS hl)
/-- the machine's remainder -/
def irm (x y : Int32) : Int32 := x - x / y * y
theorem a_idiv (C : Cx X g lay A b nL own h) {x y : Int32} (hd : decode b pc = .ok (.idiv, 1)) (hy : ¬ y = 0) (K : AtX X g lay A nL kc ks Z (pc + 1) lv (.int (x / y) :: st) M) : AtX X g lay A nL kc ks Z (pc) lv (.int y :: .int x :: st) M := fun H locs ls hP hS hl => lv_idiv C.1 C.2.1 hd hy (K H locs ls hP hS hl)
theorem a_irem (C : Cx X g lay A b nL own h) {x y : Int32} (hd : decode b pc = .ok (.irem, 1)) (hy : ¬ y = 0) (K : AtX X g lay A nL kc ks Z (pc + 1) lv (.int (irm x y) :: st) M) : AtX X g lay A nL kc ks Z (pc) lv (.int y :: .int x :: st) M := fun H locs ls hP hS hl => lv_irem C.1 C.2.1 hd hy (K H locs ls hP hS hl)
def ush (x y : Int32) : Int32 := (x.toUInt32 >>> (y.toUInt32 &&& Int32.toUInt32 31)).toInt32
theorem a_iushr (C : Cx X g lay A b nL own h) {x y : Int32} (hd : decode b pc = .ok (.iushr, 1)) (K : AtX X g lay A nL kc ks Z (pc + 1) lv (.int (ush x y) :: st) M) : AtX X g lay A nL kc ks Z (pc) lv (.int y :: .int x :: st) M := fun H locs ls hP hS hl => lv_iushr C.1 C.2.1 hd rfl (K H locs ls hP hS hl)
theorem a_ineg (C : Cx X g lay A b nL own h) {x : Int32} (hd : decode b pc = .ok (.ineg, 1)) (K : AtX X g lay A nL kc ks Z (pc + 1) lv (.int (-x) :: st) M) : AtX X g lay A nL kc ks Z (pc) lv (.int x :: st) M := fun H locs ls hP hS hl => lv_ineg C.1 C.2.1 hd (K H locs ls hP hS hl)
theorem a_i2b (C : Cx X g lay A b nL own h) {x : Int32} (hd : decode b pc = .ok (.i2b, 1)) (K : AtX X g lay A nL kc ks Z (pc + 1) lv (.int x.toInt8.toInt32 :: st) M) : AtX X g lay A nL kc ks Z (pc) lv (.int x :: st) M := fun H locs ls hP hS hl => lv_i2b C.1 C.2.1 hd rfl (K H locs ls hP hS hl)
theorem a_i2l (C : Cx X g lay A b nL own h) {x : Int32} (hd : decode b pc = .ok (.i2l, 1)) (K : AtX X g lay A nL kc ks Z (pc + 1) lv (.long x.toInt64 :: st) M) : AtX X g lay A nL kc ks Z (pc) lv (.int x :: st) M := fun H locs ls hP hS hl => lv_i2l C.1 C.2.1 hd rfl (K H locs ls hP hS hl)
theorem a_lmul (C : Cx X g lay A b nL own h) {x y : Int64} (hd : decode b pc = .ok (.lmul, 1)) (K : AtX X g lay A nL kc ks Z (pc + 1) lv (.long (x * y) :: st) M) : AtX X g lay A nL kc ks Z (pc) lv (.long y :: .long x :: st) M := fun H locs ls hP hS hl => lv_lmul C.1 C.2.1 hd (K H locs ls hP hS hl)
theorem a_dupi (C : Cx X g lay A b nL own h) {x : Int32} (hd : decode b pc = .ok (.dup, 1)) (K : AtX X g lay A nL kc ks Z (pc + 1) lv (.int x :: .int x :: st) M) : AtX X g lay A nL kc ks Z (pc) lv (.int x :: st) M := fun H locs ls hP hS hl => lv_dup C.1 C.2.1 hd rfl (K H locs ls hP hS hl)
theorem a_dupr (C : Cx X g lay A b nL own h) {x : Nat} (hd : decode b pc = .ok (.dup, 1)) (K : AtX X g lay A nL kc ks Z (pc + 1) lv (.ref x :: .ref x :: st) M) : AtX X g lay A nL kc ks Z (pc) lv (.ref x :: st) M := fun H locs ls hP hS hl => lv_dup C.1 C.2.1 hd rfl (K H locs ls hP hS hl)
theorem a_dup2ir (C : Cx X g lay A b nL own h) {x : Int32} {y : Nat} (hd : decode b pc = .ok (.dup2, 1)) (K : AtX X g lay A nL kc ks Z (pc + 1) lv (.int x :: .ref y :: .int x :: .ref y :: st) M) : AtX X g lay A nL kc ks Z (pc) lv (.int x :: .ref y :: st) M := fun H locs ls hP hS hl => lv_dup2_11 C.1 C.2.1 hd rfl rfl (K H locs ls hP hS hl)
theorem a_popi (C : Cx X g lay A b nL own h) {x : Int32} (hd : decode b pc = .ok (.pop, 1)) (K : AtX X g lay A nL kc ks Z (pc + 1) lv (st) M) : AtX X g lay A nL kc ks Z (pc) lv (.int x :: st) M := fun H locs ls hP hS hl => lv_pop C.1 C.2.1 hd rfl (K H locs ls hP hS hl)
theorem a_top {x : Int32} (K : ∀ y, y = x → AtX X g lay A nL kc ks Z (pc) lv (.int y :: st) M) : AtX X g lay A nL kc ks Z (pc) lv (.int x :: st) M := K x rfl
theorem a_mem (K : ∀ M1, M1 = M → AtX X g lay A nL kc ks Z (pc) lv (st) M1) : AtX X g lay A nL kc ks Z (pc) lv (st) M := K M rfl
theorem a_loc {lv2 : List (Nat × Value)} (hs : lv2.map (fun q => lv.lookup q.1) = lv2.map (fun q => some q.2)) (K : AtX X g lay A nL kc ks Z (pc) lv2 (st) M) : AtX X g lay A nL kc ks Z (pc) lv (st) M := fun H locs ls hP hS hl => K H locs ls hP hS (hl.sub hs)
theorem a_to {lv2 : List (Nat × Value)} (K : AtX X g lay A nL kc ks Z (pc) lv2 (st) M) (hs : lv2.map (fun q => lv.lookup q.1) = lv2.map (fun q => some q.2)) : AtX X g lay A nL kc ks Z (pc) lv (st) M := fun H locs ls hP hS hl => K H locs ls hP hS (hl.sub hs)
theorem a_ldc_w (C : Cx X g lay A b nL own h) {idx : Nat} {v : Int32} (hc : Cond.constant own idx v ∈ GW) (hd : decode b pc = .ok (.ldc_w idx, 3)) (K : AtX X g lay A nL kc ks Z (pc + 3) lv (.int v :: st) M) : AtX X g lay A nL kc ks Z (pc) lv (st) M := fun H locs ls hP hS hl => lv_ldcw C.1 C.2.1 C.2.2.2.1 (C.2.2.2.2.1 _ hc) hd (K H locs ls hP hS hl)
theorem a_lcmp (C : Cx X g lay A b nL own h) {x y : Int64} (hd : decode b pc = .ok (.lcmp, 1)) (K : AtX X g lay A nL kc ks Z (pc + 1) lv (.int (lg_cmp x y) :: st) M) : AtX X g lay A nL kc ks Z (pc) lv (.long y :: .long x :: st) M := fun H locs ls hP hS hl => W.lcmp C.1 C.2.1 hd (K H locs ls hP hS hl)
theorem a_pc {pc2 : Nat} (e : pc = pc2) (K : AtX X g lay A nL kc ks Z (pc2) lv (st) M) : AtX X g lay A nL kc ks Z (pc) lv (st) M := e ▸ K
theorem a_icmp_eq (C : Cx X g lay A b nL own h) {x y : Int32} {off : Int} (tgt : Nat) (hd : decode b pc = .ok (.if_icmp .eq off, 3)) (ht : (pc : Int) + off = (tgt : Int)) (K : x = y → AtX X g lay A nL kc ks Z (tgt) lv (st) M) (K2 : ¬ x = y → AtX X g lay A nL kc ks Z (pc + 3) lv (st) M) : AtX X g lay A nL kc ks Z (pc) lv (.int y :: .int x :: st) M := fun H locs ls hP hS hl => lv_icmp_eq C.1 C.2.1 hd ht (fun c => K c H locs ls hP hS hl) (fun c => K2 c H locs ls hP hS hl)
theorem a_if_eq (C : Cx X g lay A b nL own h) {x : Int32} {off : Int} (tgt : Nat) (hd : decode b pc = .ok (.ifCond .eq off, 3)) (ht : (pc : Int) + off = (tgt : Int)) (K : x = 0 → AtX X g lay A nL kc ks Z (tgt) lv (st) M) (K2 : ¬ x = 0 → AtX X g lay A nL kc ks Z (pc + 3) lv (st) M) : AtX X g lay A nL kc ks Z (pc) lv (.int x :: st) M := fun H locs ls hP hS hl => lv_if_eq C.1 C.2.1 hd ht (fun c => K c H locs ls hP hS hl) (fun c => K2 c H locs ls hP hS hl)
theorem a_icmp_ne (C : Cx X g lay A b nL own h) {x y : Int32} {off : Int} (tgt : Nat) (hd : decode b pc = .ok (.if_icmp .ne off, 3)) (ht : (pc : Int) + off = (tgt : Int)) (K : ¬ x = y → AtX X g lay A nL kc ks Z (tgt) lv (st) M) (K2 : x = y → AtX X g lay A nL kc ks Z (pc + 3) lv (st) M) : AtX X g lay A nL kc ks Z (pc) lv (.int y :: .int x :: st) M := fun H locs ls hP hS hl => lv_icmp_ne C.1 C.2.1 hd ht (fun c => K c H locs ls hP hS hl) (fun c => K2 c H locs ls hP hS hl)
theorem a_if_ne (C : Cx X g lay A b nL own h) {x : Int32} {off : Int} (tgt : Nat) (hd : decode b pc = .ok (.ifCond .ne off, 3)) (ht : (pc : Int) + off = (tgt : Int)) (K : ¬ x = 0 → AtX X g lay A nL kc ks Z (tgt) lv (st) M) (K2 : x = 0 → AtX X g lay A nL kc ks Z (pc + 3) lv (st) M) : AtX X g lay A nL kc ks Z (pc) lv (.int x :: st) M := fun H locs ls hP hS hl => lv_if_ne C.1 C.2.1 hd ht (fun c => K c H locs ls hP hS hl) (fun c => K2 c H locs ls hP hS hl)
theorem a_icmp_lt (C : Cx X g lay A b nL own h) {x y : Int32} {off : Int} (tgt : Nat) (hd : decode b pc = .ok (.if_icmp .lt off, 3)) (ht : (pc : Int) + off = (tgt : Int)) (K : x < y → AtX X g lay A nL kc ks Z (tgt) lv (st) M) (K2 : ¬ x < y → AtX X g lay A nL kc ks Z (pc + 3) lv (st) M) : AtX X g lay A nL kc ks Z (pc) lv (.int y :: .int x :: st) M := fun H locs ls hP hS hl => lv_icmp_lt C.1 C.2.1 hd ht (fun c => K c H locs ls hP hS hl) (fun c => K2 c H locs ls hP hS hl)
theorem a_if_lt (C : Cx X g lay A b nL own h) {x : Int32} {off : Int} (tgt : Nat) (hd : decode b pc = .ok (.ifCond .lt off, 3)) (ht : (pc : Int) + off = (tgt : Int)) (K : x < 0 → AtX X g lay A nL kc ks Z (tgt) lv (st) M) (K2 : ¬ x < 0 → AtX X g lay A nL kc ks Z (pc + 3) lv (st) M) : AtX X g lay A nL kc ks Z (pc) lv (.int x :: st) M := fun H locs ls hP hS hl => lv_if_lt C.1 C.2.1 hd ht (fun c => K c H locs ls hP hS hl) (fun c => K2 c H locs ls hP hS hl)
theorem a_icmp_ge (C : Cx X g lay A b nL own h) {x y : Int32} {off : Int} (tgt : Nat) (hd : decode b pc = .ok (.if_icmp .ge off, 3)) (ht : (pc : Int) + off = (tgt : Int)) (K : y ≤ x → AtX X g lay A nL kc ks Z (tgt) lv (st) M) (K2 : ¬ y ≤ x → AtX X g lay A nL kc ks Z (pc + 3) lv (st) M) : AtX X g lay A nL kc ks Z (pc) lv (.int y :: .int x :: st) M := fun H locs ls hP hS hl => lv_icmp_ge C.1 C.2.1 hd ht (fun c => K c H locs ls hP hS hl) (fun c => K2 c H locs ls hP hS hl)
theorem a_if_ge (C : Cx X g lay A b nL own h) {x : Int32} {off : Int} (tgt : Nat) (hd : decode b pc = .ok (.ifCond .ge off, 3)) (ht : (pc : Int) + off = (tgt : Int)) (K : 0 ≤ x → AtX X g lay A nL kc ks Z (tgt) lv (st) M) (K2 : ¬ 0 ≤ x → AtX X g lay A nL kc ks Z (pc + 3) lv (st) M) : AtX X g lay A nL kc ks Z (pc) lv (.int x :: st) M := fun H locs ls hP hS hl => lv_if_ge C.1 C.2.1 hd ht (fun c => K c H locs ls hP hS hl) (fun c => K2 c H locs ls hP hS hl)
theorem a_icmp_gt (C : Cx X g lay A b nL own h) {x y : Int32} {off : Int} (tgt : Nat) (hd : decode b pc = .ok (.if_icmp .gt off, 3)) (ht : (pc : Int) + off = (tgt : Int)) (K : y < x → AtX X g lay A nL kc ks Z (tgt) lv (st) M) (K2 : ¬ y < x → AtX X g lay A nL kc ks Z (pc + 3) lv (st) M) : AtX X g lay A nL kc ks Z (pc) lv (.int y :: .int x :: st) M := fun H locs ls hP hS hl => lv_icmp_gt C.1 C.2.1 hd ht (fun c => K c H locs ls hP hS hl) (fun c => K2 c H locs ls hP hS hl)
theorem a_if_gt (C : Cx X g lay A b nL own h) {x : Int32} {off : Int} (tgt : Nat) (hd : decode b pc = .ok (.ifCond .gt off, 3)) (ht : (pc : Int) + off = (tgt : Int)) (K : 0 < x → AtX X g lay A nL kc ks Z (tgt) lv (st) M) (K2 : ¬ 0 < x → AtX X g lay A nL kc ks Z (pc + 3) lv (st) M) : AtX X g lay A nL kc ks Z (pc) lv (.int x :: st) M := fun H locs ls hP hS hl => lv_if_gt C.1 C.2.1 hd ht (fun c => K c H locs ls hP hS hl) (fun c => K2 c H locs ls hP hS hl)
theorem a_icmp_le (C : Cx X g lay A b nL own h) {x y : Int32} {off : Int} (tgt : Nat) (hd : decode b pc = .ok (.if_icmp .le off, 3)) (ht : (pc : Int) + off = (tgt : Int)) (K : x ≤ y → AtX X g lay A nL kc ks Z (tgt) lv (st) M) (K2 : ¬ x ≤ y → AtX X g lay A nL kc ks Z (pc + 3) lv (st) M) : AtX X g lay A nL kc ks Z (pc) lv (.int y :: .int x :: st) M := fun H locs ls hP hS hl => lv_icmp_le C.1 C.2.1 hd ht (fun c => K c H locs ls hP hS hl) (fun c => K2 c H locs ls hP hS hl)
theorem a_if_le (C : Cx X g lay A b nL own h) {x : Int32} {off : Int} (tgt : Nat) (hd : decode b pc = .ok (.ifCond .le off, 3)) (ht : (pc : Int) + off = (tgt : Int)) (K : x ≤ 0 → AtX X g lay A nL kc ks Z (tgt) lv (st) M) (K2 : ¬ x ≤ 0 → AtX X g lay A nL kc ks Z (pc + 3) lv (st) M) : AtX X g lay A nL kc ks Z (pc) lv (.int x :: st) M := fun H locs ls hP hS hl => lv_if_le C.1 C.2.1 hd ht (fun c => K c H locs ls hP hS hl) (fun c => K2 c H locs ls hP hS hl)
theorem a_goto (C : Cx X g lay A b nL own h) {off : Int} (tgt : Nat) (hd : decode b pc = .ok (.goto off, 3)) (ht : (pc : Int) + off = (tgt : Int)) (K : AtX X g lay A nL kc ks Z (tgt) lv (st) M) : AtX X g lay A nL kc ks Z (pc) lv (st) M := fun H locs ls hP hS hl => lv_goto C.1 C.2.1 hd ht (K H locs ls hP hS hl)
/-- a field by its place in a class file: the class by its number, the field by its place -/
def FldG (own : String) (idx ci k : Nat) (C0 : String) (T : u_T) (N : Nat) : Prop := vwCl[ci]? = some (C0, T, N) ∧ k < N ∧ (∀ w ∈ u_ws C0 T N, w ∈ GW) ∧ Cond.fieldLink own idx (T k).1 (T k).2.1 (T k).2.2.1 ∈ GW
def FldP (k : Nat) (T : u_T) (N : Nat) (ty : FieldType) : Prop := (∃ ty0 : Nat → FieldType, ∀ k, k < N → parseFieldDescriptor (T k).2.2.1 = some (ty0 k)) ∧ (∀ a, a < N → ∀ b, b < N → a ≠ b → (T a).2.1 ≠ (T b).2.1) ∧ (T k).2.2.2 = false ∧ parseFieldDescriptor (T k).2.2.1 = some ty
theorem a_getI (C : Cx X g lay A b nL own h) {C0 : String} {T : u_T} {N idx ci k q : Nat} {l : List (Option Nat)} (f : FldG own idx ci k C0 T N) (hd : decode b pc = .ok (.getfield idx, 3)) (hq : lay[q]? = some (4, ci, l)) (hk : l[k]? = some none) (K : AtX X g lay A nL kc ks Z (pc + 3) lv (.int (M q k) :: st) M) : AtX X g lay A nL kc ks Z (pc) lv (.ref (ad g q) :: st) M := by
  intro H locs ls hP hS hl
  have he := wl_get (g := g) (M := M) hq
  have hv := flds_int (g := g) (m := M q) l 0 k hk
  rw [Nat.zero_add] at hv
  exact va_get (D := (g.1, g.2.1)) (ci := ci) (C := C0) (T := T) (N := N) C.1 C.2.1 C.2.2.2.2.1 f.2.2.1 C.2.2.2.1 C.2.2.2.2.2.1 hP q he f.1 k f.2.1 (C.2.2.2.2.1 _ f.2.2.2) (fun _ h => h) hv hd (K H locs ls hP hS hl)
theorem a_getR (C : Cx X g lay A b nL own h) {C0 : String} {T : u_T} {N idx ci k q j : Nat} {l : List (Option Nat)} (f : FldG own idx ci k C0 T N) (hd : decode b pc = .ok (.getfield idx, 3)) (hq : lay[q]? = some (4, ci, l)) (hk : l[k]? = some (some j)) (K : AtX X g lay A nL kc ks Z (pc + 3) lv (.ref (ad g j) :: st) M) : AtX X g lay A nL kc ks Z (pc) lv (.ref (ad g q) :: st) M := by
  intro H locs ls hP hS hl
  have he := wl_get (g := g) (M := M) hq
  have hv := flds_ref (g := g) (m := M q) l 0 k hk
  exact va_get (D := (g.1, g.2.1)) (ci := ci) (C := C0) (T := T) (N := N) C.1 C.2.1 C.2.2.2.2.1 f.2.2.1 C.2.2.2.1 C.2.2.2.2.2.1 hP q he f.1 k f.2.1 (C.2.2.2.2.1 _ f.2.2.2) (fun _ h => h) hv hd (K H locs ls hP hS hl)
theorem a_put (C : Cx X g lay A b nL own h) {C0 : String} {T : u_T} {N idx ci k q : Nat} {l : List (Option Nat)} {ty : FieldType} {x : Int32} (f : FldG own idx ci k C0 T N) (f2 : FldP k T N ty) (hn : narrow ty (.int x) = .int x) (hfit : fits ty (.int x) = true) (hd : decode b pc = .ok (.putfield idx, 3)) (hq : lay[q]? = some (4, ci, l)) (hk : l[k]? = some none) (K : AtX X g lay A nL kc ks Z (pc + 3) lv (st) (ms M q k x)) : AtX X g lay A nL kc ks Z (pc) lv (.int x :: .ref (ad g q) :: st) M := by
  intro H locs ls hP hS hl
  have he := wl_get (g := g) (M := M) hq
  obtain ⟨⟨ty0, hty⟩, hnm, hfin, hds⟩ := f2
  have hlen : k < (flds g l (M q) 0).length := by rw [flds_len]; exact (List.getElem?_eq_some_iff.mp hk).1
  refine va_put (D := (g.1, g.2.1)) (ci := ci) (C := C0) (T := T) (N := N) C.1 C.2.1 C.2.2.2.2.1 f.2.2.1 ty0 hty hnm C.2.2.2.1 C.2.2.2.2.2.1 hP (C.2.2.2.2.2.2.2.1.D M) hS q he f.1 k f.2.1 (C.2.2.2.2.1 _ f.2.2.2) (fun _ h => h) hfin hds hn hfit hlen hd (fun H1 locs1 hP1 hD1 hS1 => K H1 locs1 ls ?_ hS1 hl)
  rw [flds_set l 0 k hk, Nat.zero_add] at hP1
  have e := wl_set (g := g) (M := M) (i := k) (v := x) hq
  unfold wP
  rw [← e]
  exact hP1
theorem nar_z {x : Int32} (h : x = 0 ∨ x = 1) : narrow .boolean (.int x) = .int x := by rcases h with rfl | rfl <;> rfl
theorem fit_z {x : Int32} (h : x = 0 ∨ x = 1) : fits .boolean (.int x) = true := by rcases h with rfl | rfl <;> rfl
theorem a_iald (C : Cx X g lay A b nL own h) {q n : Nat} {l : List (Option Nat)} {i : Int32} (hd : decode b pc = .ok (.iaload, 1)) (hq : lay[q]? = some (0, n, l)) (hi : vp_in i n) (K : AtX X g lay A nL kc ks Z (pc + 1) lv (.int (M q i.toNatClampNeg) :: st) M) : AtX X g lay A nL kc ks Z (pc) lv (.int i :: .ref (ad g q) :: st) M := by
  intro H locs ls hP hS hl
  exact va_iald C.1 C.2.1 C.2.2.2.2.2.1 hP q 0 (wl_get (g := g) (M := M) hq) rfl hi hd (K H locs ls hP hS hl)
theorem a_bald (C : Cx X g lay A b nL own h) {q n : Nat} {l : List (Option Nat)} {i : Int32} (hd : decode b pc = .ok (.baload, 1)) (hq : lay[q]? = some (1, n, l)) (hi : vp_in i n) (K : AtX X g lay A nL kc ks Z (pc + 1) lv (.int (M q i.toNatClampNeg) :: st) M) : AtX X g lay A nL kc ks Z (pc) lv (.int i :: .ref (ad g q) :: st) M := by
  intro H locs ls hP hS hl
  exact va_bald C.1 C.2.1 C.2.2.2.2.2.1 hP q 1 (wl_get (g := g) (M := M) hq) rfl hi hd (K H locs ls hP hS hl)
theorem a_zald (C : Cx X g lay A b nL own h) {q n : Nat} {l : List (Option Nat)} {i : Int32} (hd : decode b pc = .ok (.baload, 1)) (hq : lay[q]? = some (2, n, l)) (hi : vp_in i n) (K : AtX X g lay A nL kc ks Z (pc + 1) lv (.int (M q i.toNatClampNeg) :: st) M) : AtX X g lay A nL kc ks Z (pc) lv (.int i :: .ref (ad g q) :: st) M := by
  intro H locs ls hP hS hl
  exact va_zald C.1 C.2.1 C.2.2.2.2.2.1 hP q 2 (wl_get (g := g) (M := M) hq) rfl hi hd (K H locs ls hP hS hl)
theorem a_iast (C : Cx X g lay A b nL own h) {q n : Nat} {l : List (Option Nat)} {i x : Int32} (hd : decode b pc = .ok (.iastore, 1)) (hq : lay[q]? = some (0, n, l)) (hi : vp_in i n) (K : AtX X g lay A nL kc ks Z (pc + 1) lv (st) (ms M q i.toNatClampNeg x)) : AtX X g lay A nL kc ks Z (pc) lv (.int x :: .int i :: .ref (ad g q) :: st) M := by
  intro H locs ls hP hS hl
  refine va_iast C.1 C.2.1 C.2.2.2.2.2.1 hP (C.2.2.2.2.2.2.2.1.D M) hS q 0 (wl_get (g := g) (M := M) hq) rfl hi hd (fun H1 locs1 hP1 hD1 hS1 => K H1 locs1 ls ?_ hS1 hl)
  have e := wl_set (g := g) (M := M) (i := i.toNatClampNeg) (v := x) hq
  unfold wP
  rw [← e]
  exact hP1
theorem a_bast (C : Cx X g lay A b nL own h) {q n : Nat} {l : List (Option Nat)} {i x : Int32} (hd : decode b pc = .ok (.bastore, 1)) (hq : lay[q]? = some (1, n, l)) (hi : vp_in i n) (K : AtX X g lay A nL kc ks Z (pc + 1) lv (st) (ms M q i.toNatClampNeg (vp_nar .byte x))) : AtX X g lay A nL kc ks Z (pc) lv (.int x :: .int i :: .ref (ad g q) :: st) M := by
  intro H locs ls hP hS hl
  refine va_bast C.1 C.2.1 C.2.2.2.2.2.1 hP (C.2.2.2.2.2.2.2.1.D M) hS q 1 (wl_get (g := g) (M := M) hq) rfl hi hd (fun H1 locs1 hP1 hD1 hS1 => K H1 locs1 ls ?_ hS1 hl)
  have e := wl_set (g := g) (M := M) (i := i.toNatClampNeg) (v := (vp_nar .byte x)) hq
  unfold wP
  rw [← e]
  exact hP1
theorem a_zast (C : Cx X g lay A b nL own h) {q n : Nat} {l : List (Option Nat)} {i x : Int32} (hd : decode b pc = .ok (.bastore, 1)) (hq : lay[q]? = some (2, n, l)) (hi : vp_in i n) (K : AtX X g lay A nL kc ks Z (pc + 1) lv (st) (ms M q i.toNatClampNeg (vp_nar .boolean x))) : AtX X g lay A nL kc ks Z (pc) lv (.int x :: .int i :: .ref (ad g q) :: st) M := by
  intro H locs ls hP hS hl
  refine va_zast C.1 C.2.1 C.2.2.2.2.2.1 hP (C.2.2.2.2.2.2.2.1.D M) hS q 2 (wl_get (g := g) (M := M) hq) rfl hi hd (fun H1 locs1 hP1 hD1 hS1 => K H1 locs1 ls ?_ hS1 hl)
  have e := wl_set (g := g) (M := M) (i := i.toNatClampNeg) (v := (vp_nar .boolean x)) hq
  unfold wP
  rw [← e]
  exact hP1
theorem a_aald (C : Cx X g lay A b nL own h) {q n : Nat} {l : List (Option Nat)} {i : Int32} (hd : decode b pc = .ok (.aaload, 1)) (hq : lay[q]? = some (3, n, l)) (hi : vp_in i n) (K : AtX X g lay A nL kc ks Z (pc + 1) lv (va_rf (cref g (M q i.toNatClampNeg)) :: st) M) : AtX X g lay A nL kc ks Z (pc) lv (.int i :: .ref (ad g q) :: st) M := by
  intro H locs ls hP hS hl
  exact va_aldq C.1 C.2.1 C.2.2.2.2.2.1 hP q 3 (wl_get (g := g) (M := M) hq) rfl hi hd (K H locs ls hP hS hl)
theorem a_aast (C : Cx X g lay A b nL own h) {q n : Nat} {l : List (Option Nat)} {i x : Int32} (hd : decode b pc = .ok (.aastore, 1)) (hq : lay[q]? = some (3, n, l)) (hi : vp_in i n) (hx : x = 0 ∨ ∃ fl, lay[x.toNatClampNeg]? = some (4, 1, fl)) (K : AtX X g lay A nL kc ks Z (pc + 1) lv (st) (ms M q i.toNatClampNeg x)) : AtX X g lay A nL kc ks Z (pc) lv (va_rf (cref g x) :: .int i :: .ref (ad g q) :: st) M := by
  intro H locs ls hP hS hl
  have e := wl_set (g := g) (M := M) (i := i.toNatClampNeg) (v := x) hq
  have ef : va_up (fun j => cref g (M q j)) i.toNatClampNeg (cref g x) = fun j => cref g (upd (M q) i.toNatClampNeg x j) := by
    funext j
    by_cases hj : j = i.toNatClampNeg <;> simp [va_up, upd, hj]
  by_cases h0 : x = 0
  · have ec : cref g x = none := by simp [cref, h0]
    rw [ec] at ef ⊢
    refine va_astqN C.1 C.2.1 C.2.2.2.2.2.1 hP (C.2.2.2.2.2.2.2.1.D M) hS q 3 (wl_get (g := g) (M := M) hq) rfl hi hd (fun H1 locs1 hP1 hD1 hS1 => K H1 locs1 ls ?_ hS1 hl)
    unfold wP
    rw [← e]
    rw [ef] at hP1
    exact hP1
  · obtain ⟨fl, hfl⟩ := hx.resolve_left h0
    have ec : cref g x = some (ad g x.toNatClampNeg) := by simp [cref, h0]
    rw [ec] at ef ⊢
    refine va_astq C.1 C.2.1 C.2.2.2.2.2.1 hP (C.2.2.2.2.2.2.2.1.D M) hS q 3 x.toNatClampNeg 1 (r := (RX1, TX1, 1)) (wl_get (g := g) (M := M) hq) rfl (wl_get (g := g) (M := M) hfl) rfl hi hd (fun H1 locs1 hP1 hD1 hS1 => K H1 locs1 ls ?_ hS1 hl)
    unfold wP
    rw [← e]
    rw [ef] at hP1
    exact hP1
theorem a_cref {x : Int32} {k : Nat} (hx : ¬ x = 0) (hk : k = x.toNatClampNeg) (K : AtX X g lay A nL kc ks Z (pc) lv (.ref (ad g k) :: st) M) : AtX X g lay A nL kc ks Z (pc) lv (va_rf (cref g x) :: st) M := by
  have ec : cref g x = some (ad g k) := by simp [cref, hx, hk]
  rw [ec]
  exact K
theorem a_ifnn (C : Cx X g lay A b nL own h) {y : Nat} {off : Int} (tgt : Nat) (hd : decode b pc = .ok (.ifnonnull off, 3)) (ht : (pc : Int) + off = (tgt : Int)) (K : AtX X g lay A nL kc ks Z (tgt) lv (st) M) : AtX X g lay A nL kc ks Z (pc) lv (.ref y :: st) M := fun H locs ls hP hS hl => lv_ifnonnull C.1 C.2.1 hd ht (K H locs ls hP hS hl)
theorem a_alen0 (C : Cx X g lay A b nL own h) {q n : Nat} {l : List (Option Nat)} {v : Int32} (hd : decode b pc = .ok (.arraylength, 1)) (hq : lay[q]? = some (0, n, l)) (hv : Int32.ofNat n = v) (K : AtX X g lay A nL kc ks Z (pc + 1) lv (.int v :: st) M) : AtX X g lay A nL kc ks Z (pc) lv (.ref (ad g q) :: st) M := by
  intro H locs ls hP hS hl
  exact va_alen C.1 C.2.1 C.2.2.2.2.2.1 hP q 0 (wl_get (g := g) (M := M) hq) rfl hv hd (K H locs ls hP hS hl)
/-- a return with a value for which the end holds -/
def RetI (X : FX) (g : GT) (lay : List CD) (A : Nat → Prop) (b : ByteArray) (nL kc ks : Nat) (Z : State → Prop) (post : Int32 → Mem → Prop) : Prop := ∀ (v : Int32) (M : Mem) (pc : Nat) (lv : List (Nat × Value)), decode b pc = .ok (.ireturn, 1) → post v M → AtX X g lay A nL kc ks Z pc lv [.int v] M
def RetZ (X : FX) (g : GT) (lay : List CD) (A : Nat → Prop) (b : ByteArray) (nL kc ks : Nat) (Z : State → Prop) (post : Int32 → Mem → Prop) : Prop := ∀ (v : Int32) (M : Mem) (pc : Nat) (lv : List (Nat × Value)), decode b pc = .ok (.ireturn, 1) → ((v = 0 ∨ v = 1) ∧ post v M) → AtX X g lay A nL kc ks Z pc lv [.int v] M
def RetV (X : FX) (g : GT) (lay : List CD) (A : Nat → Prop) (b : ByteArray) (nL kc ks : Nat) (Z : State → Prop) (post : Mem → Prop) : Prop := ∀ (M : Mem) (pc : Nat) (lv : List (Nat × Value)), decode b pc = .ok (.return_, 1) → post M → AtX X g lay A nL kc ks Z pc lv [] M
/-- the world at a method's start -/
def PW (g : GT) (lay : List CD) (M : Mem) (U : State) : Prop := wP g lay M U.heap ∧ va_K (g.1, g.2.1) vwCl (tys g) U ∧ NW U ∧ va_D (fun _ => True) (wl g lay M)
abbrev pcW (g : GT) (lay : List CD) (M : Mem) (vs : List Value) (sz : Nat) : Array Value → State → Prop := va_Pc vs (fun U => U.heap.size = sz ∧ PW g lay M U)
abbrev rmH (h : Nat) : Room := { frames := h, cells := 0, slots := 0, locals := 64 * h }
abbrev frW (g : GT) (lay : List CD) (M : Mem) (sz : Nat) : Nat → Prop := va_A (wl g lay M) sz
/-- CONTRACTS: a method of the world that answers an int (or a boolean as one), and one that answers nothing -/
def CI (l : Launch) (g : GT) (lay : List CD) (y : MethodName) (bb : ByteArray) (mL : Nat) (ret : Option FieldType) (h : Nat) (vs : List Value) (M : Mem) (post : Int32 → Mem → Prop) : Prop :=
  ∀ sz, Met l y (.code y bb mL ret :: GW) (rmH h) (pcW g lay M vs sz) (va_Qi post (fun u t => wP g lay u t.heap) (frW g lay M sz)) 0 0 (frW g lay M sz)
def CV (l : Launch) (g : GT) (lay : List CD) (y : MethodName) (bb : ByteArray) (mL : Nat) (ret : Option FieldType) (h : Nat) (vs : List Value) (M : Mem) (post : Mem → Prop) : Prop :=
  ∀ sz, Met l y (.code y bb mL ret :: GW) (rmH h) (pcW g lay M vs sz) (va_Qv post (fun u t => wP g lay u t.heap) (frW g lay M sz)) 0 0 (frW g lay M sz)
theorem pcW_blind {vs : List Value} {sz : Nat} : FrameBlind (pcW g lay M vs sz) := fun a U f mk q => by
  obtain ⟨h0, h1, h2, h3, h4, h5⟩ := q
  exact ⟨h0, h1, h2, va_K.moved (u := U) (U := U.calling f mk a) (Vm.Alike.refl U.vm) h3, NW.same (s := U) (U := U.calling f mk a) rfl h4, h5⟩
/-- what is in order of a method that is called: by its class, or static, or static and private in the nest -/
def MeB (y : MethodName) (bb : ByteArray) (mL : Nat) (ret : Option FieldType) (n : Nat) : Prop := Cond.initialized y.cls ∈ GW ∧ Cond.code y bb mL ret ∈ GW ∧ (y.cls ≠ "java/lang/invoke/MethodHandle" ∧ y.cls ≠ "java/lang/invoke/VarHandle" ∧ (parseMethodDescriptor y.desc).map (fun d => d.parameters.length) = some n) ∧ mL ≤ 45
def MeV (y : MethodName) (bb : ByteArray) (mL : Nat) (ret : Option FieldType) (n : Nat) : Prop := MeB y bb mL ret n ∧ Cond.instanceMethod y ∈ GW ∧ Cond.selects y.cls y y ∈ GW
def MeS (y : MethodName) (bb : ByteArray) (mL : Nat) (ret : Option FieldType) (n : Nat) : Prop := MeB y bb mL ret n ∧ Cond.static y ∈ GW
theorem gw_good0 {c : Cond} (hc : c ∈ GW) : GoodIn GW (c :: GW) := by
  intro w hw
  have h1 : w ∈ GW := (List.mem_cons.mp hw).elim (fun e => e ▸ hc) id
  exact ⟨h1, good_of_word (List.mem_filter.mp h1).2⟩
theorem cx_frees (C : Cx X g lay A b nL own h) {H : Heap} {locs : List Loc} (hS : va_S A (xs X).heap H locs) : ∀ q, frW g lay M H.size q → A q := by
  intro q hq
  rcases hq with ⟨k, e, hk⟩ | hq
  · obtain ⟨d, h1, h2⟩ := wl_some hk
    have h3 : q = ad g k := congrArg Prod.fst h2
    rw [h3]
    exact C.2.2.2.2.2.2.2.1.2 k (List.getElem?_eq_some_iff.mp h1).1
  · exact C.2.2.2.2.2.2.2.2.1 q (Nat.le_trans hS.1 hq)
theorem cx_pre (C : Cx X g lay A b nL own h) {H : Heap} {vs : List Value} (hP : wP g lay M H) : ∀ U : State, U.heap = H → (xs X).WarmedH U.vm → pcW g lay M vs H.size vs.toArray U := by
  intro U hU hW
  exact ⟨rfl, by rw [hU], by rw [hU]; exact hP, va_K.moved hW.alike C.2.2.2.2.2.1, NW.warm hW C.2.2.2.2.2.2.1, (C.2.2.2.2.2.2.2.1.D M).weaken (fun _ _ _ _ => trivial)⟩
theorem cx_callB (C : Cx X g lay A b nL own h) {y : MethodName} {bb : ByteArray} {mL n idx h2 : Nat} {ret : Option FieldType} (hy : MeB y bb mL ret n) (hl : Cond.methodLink own idx y ∈ GW) (hh : h2 + 1 ≤ h) :
    CallB X.2.2.2.1 (xs X) X.2.2.2.2.2.2.1 own idx y bb mL ret (.code y bb mL ret :: GW) (rmH h2) 0 0 n := by
  obtain ⟨h3, h4, h5, h6⟩ := hy
  have r1 := C.2.2.2.2.2.2.2.2.2.1
  have r2 := C.2.2.2.2.2.2.2.2.2.2
  exact callB_of n C.2.2.2.2.1 (gw_good0 h4) rfl rfl rfl (C.2.2.2.2.1 _ h3) (C.2.2.2.2.1 _ hl) h5 ⟨by show h2 + 1 ≤ _; omega, by show 8 + (mL + 11) + 64 * h2 ≤ _; omega⟩
theorem cx_fix (C : Cx X g lay A b nL own h) : CallFix X.1 X.2.2.2.2.2.1 X.2.2.2.2.2.2.2.2.2 b nL (xs X) X.2.2.2.2.2.2.1 GW own := ⟨C.1, C.2.1, C.2.2.1, C.2.2.2.1, C.2.2.2.2.1⟩
theorem a_callI (C : Cx X g lay A b nL own h) {y : MethodName} {bb : ByteArray} {mL n idx h2 q ci : Nat} {ret : Option FieldType} {T : u_T} {N : Nat} {fl : List (Option Nat)} {stk : List Value} (As : List Value) {Rest : Int32 → Mem → Prop} (hy : MeV y bb mL ret n) (hlk : Cond.methodLink own idx y ∈ GW) (hct : CI X.2.1 g lay y bb mL ret h2 (.ref (ad g q) :: As) M Rest) (hh : h2 + 1 ≤ h) (hq : lay[q]? = some (4, ci, fl)) (hcl : vwCl[ci]? = some (y.cls, T, N)) (hstk : stk = As.reverse ++ .ref (ad g q) :: st) (hn : As.length = n) (hw : (st.map fun v => v.category).sum ≤ 8) (hd : decode b pc = .ok (.invokevirtual idx, 3)) (hr : kc ≤ X.2.2.2.1.cells ∧ ks ≤ X.2.2.2.1.slots) (K : ∀ (r : Int32) (M1 : Mem), Rest r M1 → AtX X g lay A nL kc ks Z (pc + 3) lv (.int r :: st) M1) : AtX X g lay A nL kc ks Z (pc) lv (stk) M := by
  subst hstk
  intro H locs ls hP hS hl
  have hFc := cx_frees (M := M) C hS
  exact va_calli (va_runV (As := As) (rest := st) (cx_fix C) (hct H.size) ⟨cx_callB C hy.1 hlk hh, C.2.2.2.2.1 _ hy.2.1, C.2.2.2.2.1 _ hy.2.2⟩ ⟨pcW_blind, va_recv C.2.2.2.2.2.1 hP hcl (wl_get (g := g) (M := M) hq), cx_pre C hP⟩ rfl hn hl.size rfl (lv_room hw) hd hr) hS (fun q _ h => hFc q h) hFc (fun r u t H1 locs1 ht hvm hpost hB hz1 hk1 hS1 => K r u hpost H1 locs1 ls (by rw [← ht]; exact hB) hS1 hl)
theorem a_statI (C : Cx X g lay A b nL own h) {y : MethodName} {bb : ByteArray} {mL n idx h2 : Nat} {ret : Option FieldType} {stk : List Value} (As : List Value) {Rest : Int32 → Mem → Prop} (hy : MeS y bb mL ret n) (hlk : Cond.methodLink own idx y ∈ GW) (hct : CI X.2.1 g lay y bb mL ret h2 As M Rest) (hh : h2 + 1 ≤ h) (hstk : stk = As.reverse ++ st) (hn : As.length = n) (hw : (st.map fun v => v.category).sum ≤ 8) (hd : decode b pc = .ok (.invokestatic idx, 3)) (hr : kc ≤ X.2.2.2.1.cells ∧ ks ≤ X.2.2.2.1.slots) (K : ∀ (r : Int32) (M1 : Mem), Rest r M1 → AtX X g lay A nL kc ks Z (pc + 3) lv (.int r :: st) M1) : AtX X g lay A nL kc ks Z (pc) lv (stk) M := by
  subst hstk
  intro H locs ls hP hS hl
  have hFc := cx_frees (M := M) C hS
  exact va_calli (va_runS (As := As) (rest := st) (cx_fix C) (hct H.size) ⟨cx_callB C hy.1 hlk hh, C.2.2.2.2.1 _ hy.2⟩ ⟨pcW_blind, cx_pre C hP⟩ rfl hn hl.size rfl (lv_room hw) hd hr) hS (fun q _ h => hFc q h) hFc (fun r u t H1 locs1 ht hvm hpost hB hz1 hk1 hS1 => K r u hpost H1 locs1 ls (by rw [← ht]; exact hB) hS1 hl)
theorem a_nestI (C : Cx X g lay A b nL own h) {y : MethodName} {bb : ByteArray} {mL n idx h2 : Nat} {ret : Option FieldType} {stk : List Value} (As : List Value) {Rest : Int32 → Mem → Prop} {host : String} (hy : MeS y bb mL ret n) (hlk : Cond.methodLinkNest own idx y host ∈ NWs) (hct : CI X.2.1 g lay y bb mL ret h2 As M Rest) (hh : h2 + 1 ≤ h) (hstk : stk = As.reverse ++ st) (hn : As.length = n) (hw : (st.map fun v => v.category).sum ≤ 8) (hd : decode b pc = .ok (.invokestatic idx, 3)) (hr : kc ≤ X.2.2.2.1.cells ∧ ks ≤ X.2.2.2.1.slots) (K : ∀ (r : Int32) (M1 : Mem), Rest r M1 → AtX X g lay A nL kc ks Z (pc + 3) lv (.int r :: st) M1) : AtX X g lay A nL kc ks Z (pc) lv (stk) M := by
  subst hstk
  intro H locs ls hP hS hl
  have hFc := cx_frees (M := M) C hS
  obtain ⟨⟨h3, h4, h5, h6⟩, h7⟩ := hy
  have r1 := C.2.2.2.2.2.2.2.2.2.1
  have r2 := C.2.2.2.2.2.2.2.2.2.2
  exact va_calli (va_runSN (As := As) (rest := st) (cx_fix C) (hct H.size) ⟨va_cnB n C.2.2.2.2.1 (gw_good0 h4) rfl rfl rfl (C.2.2.2.2.2.2.1 _ hlk) (C.2.2.2.2.1 _ h3) h5 ⟨by show h2 + 1 ≤ _; omega, by show 8 + (mL + 11) + 64 * h2 ≤ _; omega⟩, C.2.2.2.2.1 _ h7, trivial⟩ ⟨pcW_blind, cx_pre C hP⟩ rfl hn hl.size rfl (lv_room hw) hd hr) hS (fun q _ h => hFc q h) hFc (fun r u t H1 locs1 ht hvm hpost hB hz1 hk1 hS1 => K r u hpost H1 locs1 ls (by rw [← ht]; exact hB) hS1 hl)
theorem a_callV (C : Cx X g lay A b nL own h) {y : MethodName} {bb : ByteArray} {mL n idx h2 q ci : Nat} {ret : Option FieldType} {T : u_T} {N : Nat} {fl : List (Option Nat)} {stk : List Value} (As : List Value) {Rest : Mem → Prop} (hy : MeV y bb mL ret n) (hlk : Cond.methodLink own idx y ∈ GW) (hct : CV X.2.1 g lay y bb mL ret h2 (.ref (ad g q) :: As) M Rest) (hh : h2 + 1 ≤ h) (hq : lay[q]? = some (4, ci, fl)) (hcl : vwCl[ci]? = some (y.cls, T, N)) (hstk : stk = As.reverse ++ .ref (ad g q) :: st) (hn : As.length = n) (hw : (st.map fun v => v.category).sum ≤ 8) (hd : decode b pc = .ok (.invokevirtual idx, 3)) (hr : kc ≤ X.2.2.2.1.cells ∧ ks ≤ X.2.2.2.1.slots) (K : ∀ (M1 : Mem), Rest M1 → AtX X g lay A nL kc ks Z (pc + 3) lv st M1) : AtX X g lay A nL kc ks Z (pc) lv (stk) M := by
  subst hstk
  intro H locs ls hP hS hl
  have hFc := cx_frees (M := M) C hS
  exact va_callv (va_runV (As := As) (rest := st) (cx_fix C) (hct H.size) ⟨cx_callB C hy.1 hlk hh, C.2.2.2.2.1 _ hy.2.1, C.2.2.2.2.1 _ hy.2.2⟩ ⟨pcW_blind, va_recv C.2.2.2.2.2.1 hP hcl (wl_get (g := g) (M := M) hq), cx_pre C hP⟩ rfl hn hl.size rfl (lv_room hw) hd hr) hS (fun q _ h => hFc q h) hFc (fun u t H1 locs1 ht hvm hpost hB hz1 hk1 hS1 => K u hpost H1 locs1 ls (by rw [← ht]; exact hB) hS1 hl)
theorem a_statV (C : Cx X g lay A b nL own h) {y : MethodName} {bb : ByteArray} {mL n idx h2 : Nat} {ret : Option FieldType} {stk : List Value} (As : List Value) {Rest : Mem → Prop} (hy : MeS y bb mL ret n) (hlk : Cond.methodLink own idx y ∈ GW) (hct : CV X.2.1 g lay y bb mL ret h2 As M Rest) (hh : h2 + 1 ≤ h) (hstk : stk = As.reverse ++ st) (hn : As.length = n) (hw : (st.map fun v => v.category).sum ≤ 8) (hd : decode b pc = .ok (.invokestatic idx, 3)) (hr : kc ≤ X.2.2.2.1.cells ∧ ks ≤ X.2.2.2.1.slots) (K : ∀ (M1 : Mem), Rest M1 → AtX X g lay A nL kc ks Z (pc + 3) lv st M1) : AtX X g lay A nL kc ks Z (pc) lv (stk) M := by
  subst hstk
  intro H locs ls hP hS hl
  have hFc := cx_frees (M := M) C hS
  exact va_callv (va_runS (As := As) (rest := st) (cx_fix C) (hct H.size) ⟨cx_callB C hy.1 hlk hh, C.2.2.2.2.1 _ hy.2⟩ ⟨pcW_blind, cx_pre C hP⟩ rfl hn hl.size rfl (lv_room hw) hd hr) hS (fun q _ h => hFc q h) hFc (fun u t H1 locs1 ht hvm hpost hB hz1 hk1 hS1 => K u hpost H1 locs1 ls (by rw [← ht]; exact hB) hS1 hl)
theorem a_nestV (C : Cx X g lay A b nL own h) {y : MethodName} {bb : ByteArray} {mL n idx h2 : Nat} {ret : Option FieldType} {stk : List Value} (As : List Value) {Rest : Mem → Prop} {host : String} (hy : MeS y bb mL ret n) (hlk : Cond.methodLinkNest own idx y host ∈ NWs) (hct : CV X.2.1 g lay y bb mL ret h2 As M Rest) (hh : h2 + 1 ≤ h) (hstk : stk = As.reverse ++ st) (hn : As.length = n) (hw : (st.map fun v => v.category).sum ≤ 8) (hd : decode b pc = .ok (.invokestatic idx, 3)) (hr : kc ≤ X.2.2.2.1.cells ∧ ks ≤ X.2.2.2.1.slots) (K : ∀ (M1 : Mem), Rest M1 → AtX X g lay A nL kc ks Z (pc + 3) lv st M1) : AtX X g lay A nL kc ks Z (pc) lv (stk) M := by
  subst hstk
  intro H locs ls hP hS hl
  have hFc := cx_frees (M := M) C hS
  obtain ⟨⟨h3, h4, h5, h6⟩, h7⟩ := hy
  have r1 := C.2.2.2.2.2.2.2.2.2.1
  have r2 := C.2.2.2.2.2.2.2.2.2.2
  exact va_callv (va_runSN (As := As) (rest := st) (cx_fix C) (hct H.size) ⟨va_cnB n C.2.2.2.2.1 (gw_good0 h4) rfl rfl rfl (C.2.2.2.2.2.2.1 _ hlk) (C.2.2.2.2.1 _ h3) h5 ⟨by show h2 + 1 ≤ _; omega, by show 8 + (mL + 11) + 64 * h2 ≤ _; omega⟩, C.2.2.2.2.1 _ h7, trivial⟩ ⟨pcW_blind, cx_pre C hP⟩ rfl hn hl.size rfl (lv_room hw) hd hr) hS (fun q _ h => hFc q h) hFc (fun u t H1 locs1 ht hvm hpost hB hz1 hk1 hS1 => K u hpost H1 locs1 ls (by rw [← ht]; exact hB) hS1 hl)
end AT
/-- a method's contract out of its walk; methods of java.lang.Math too, where no native row stands for them -/
theorem met_ofW {l : Launch} {y : MethodName} {ws ws' : List Cond} {rm : Room} {Pc : Array Value → State → Prop} {Qc : Array Value → State → Outcome → State → Prop} {mc ms : Nat} {free : Addr → Prop} {cc : ByteArray} {maxL : Nat} {ret : Option FieldType}
    (hy : plainFor y = true) (hw : ws = Cond.code y cc maxL ret :: ws')
    (body : ∀ p e s m args below meth c s₁, BodyLoose p l y (headSpec ws rm) cc maxL ret e s m args below meth c s₁ → c.maxLocals = maxL → Pc args s →
      W p l e (headSpec ws rm).room s m args below meth c s.heap [] 0 0 (MQ below Qc args s mc ms free) (entryFrame m args maxL)) : Met l y ws rm Pc Qc mc ms free := by
  refine MetFree.of_bodySF (code := cc) (maxLocals := maxL) (ret := ret) hy ?_ ?_
  · intro args s m h hn
    obtain ⟨meth, c, h1, h2, h3, h4, h5, h6, -, -⟩ := Cond.code_spec hn (atoms_spec (ws := ws) h _ (by rw [hw]; exact List.mem_cons_self))
    exact ⟨meth, c, h1, h2, h3, h4, h5, h6⟩
  · intro p e s m args below meth c s₁ B hml hP _
    have hh0 : s₁.heap = s.heap := by rw [B.state]; rfl
    obtain ⟨t, a1, o, b1, b2, b3⟩ := body p e s m args below meth c s₁ B hml hP s₁ hh0 (Stand.of_body B)
    exact ⟨t, o, a1, b1, b2, ⟨b3.1, b3.2⟩⟩
set_option maxHeartbeats 1000000 in
theorem ci_of {l : Launch} {g : GT} {lay : List CD} {y : MethodName} {bb : ByteArray} {mL h : Nat} {vs : List Value} {M : Mem} {post : Int32 → Mem → Prop} (hy : plainFor y = true) (hc : (lg_sl vs).length ≤ mL)
    (body : ∀ (X : FX) (A : Nat → Prop) (Z : State → Prop), X.2.1 = l → Cx X g lay A bb mL y.cls h → 0 ≤ X.2.2.2.1.cells ∧ 0 ≤ X.2.2.2.1.slots → RetI X g lay A bb mL 0 0 Z post → AtX X g lay A mL 0 0 Z 0 (lv_args 0 vs) [] M) : CI l g lay y bb mL (some .int) h vs M post := by
  intro sz
  refine met_ofW (cc := bb) (maxL := mL) (ret := (some .int)) hy rfl ?_
  intro p e s m args below meth c s₁ B hml hv
  obtain ⟨rfl, hsz, hP, hK, hN, hD⟩ := hv
  subst hsz
  have hx := B.exec
  have hb := B.bytes
  have hr := B.returns
  have hts := atoms_spec (ws := .code y bb mL (some .int) :: GW) B.pre
  have hown : s.vm.findClass y.cls = some m.cls := findClass_of_methodNamed B.named
  have hlocks := B.notSynchronized
  generalize hAe : frW g lay M s.heap.size = A
  have hin : ∀ k, k < lay.length → A (ad g k) := fun k hk => by
    rw [← hAe]
    exact Or.inl ⟨k, _, wl_get (M := M) (List.getElem?_eq_getElem hk)⟩
  have hA : ∀ q : Nat, s.heap.size ≤ q → A q := fun q h => by rw [← hAe]; exact Or.inr h
  have hAd : AdOK g lay.length A := AdOK.of hD hin
  have hl := lv_entry vs (n := mL) hc
  rw [lg_entry_eq]
  generalize (lg_sl vs ++ List.replicate (mL - (lg_sl vs).length) Slot.unset).toArray = ls at hl ⊢
  refine body (p, l, e, _, s, m, _, below, meth, c) A _ rfl ⟨hx, hb, hml, hown, fun w hw => hts w (List.mem_cons_of_mem _ hw), hK, hN, hAd, hA, Nat.le_refl _, Nat.le_refl _⟩ ⟨Nat.zero_le _, Nat.zero_le _⟩ ?_ s.heap [] ls hP va_S.rf ⟨_, hl, fun i v hi => ?_⟩
  · intro v M1 pc lv hd hpost H locs ls2 hP1 hS1 hl1
    exact W.iret (v := v) hx hb hr (fun t ht hW => ⟨⟨v, M1, rfl, hpost, by show wP g lay M1 t.heap; rw [ht]; exact hP1⟩, hS1.F ht⟩) hS1.2.2 hd
  · have h1 : ∀ (l2 : List (Nat × Value)), l2.lookup i = some v → (i, v) ∈ l2 := by
      intro l2
      induction l2 with
      | nil => intro h; simp at h
      | cons q l2 ih =>
        intro h
        obtain ⟨qi, qv⟩ := q
        rw [List.lookup_cons] at h
        by_cases hq : i == qi
        · rw [hq] at h
          have e1 : i = qi := by simpa using hq
          have e2 : qv = v := Option.some.inj h
          subst e1; subst e2
          exact List.mem_cons_self
        · rw [Bool.not_eq_true] at hq
          rw [hq] at h
          exact List.mem_cons_of_mem _ (ih h)
    exact h1 _ hi
set_option maxHeartbeats 1000000 in
theorem cz_of {l : Launch} {g : GT} {lay : List CD} {y : MethodName} {bb : ByteArray} {mL h : Nat} {vs : List Value} {M : Mem} {post : Int32 → Mem → Prop} (hy : plainFor y = true) (hc : (lg_sl vs).length ≤ mL)
    (body : ∀ (X : FX) (A : Nat → Prop) (Z : State → Prop), X.2.1 = l → Cx X g lay A bb mL y.cls h → 0 ≤ X.2.2.2.1.cells ∧ 0 ≤ X.2.2.2.1.slots → RetZ X g lay A bb mL 0 0 Z post → AtX X g lay A mL 0 0 Z 0 (lv_args 0 vs) [] M) : CI l g lay y bb mL (some .boolean) h vs M post := by
  intro sz
  refine met_ofW (cc := bb) (maxL := mL) (ret := (some .boolean)) hy rfl ?_
  intro p e s m args below meth c s₁ B hml hv
  obtain ⟨rfl, hsz, hP, hK, hN, hD⟩ := hv
  subst hsz
  have hx := B.exec
  have hb := B.bytes
  have hr := B.returns
  have hts := atoms_spec (ws := .code y bb mL (some .boolean) :: GW) B.pre
  have hown : s.vm.findClass y.cls = some m.cls := findClass_of_methodNamed B.named
  have hlocks := B.notSynchronized
  generalize hAe : frW g lay M s.heap.size = A
  have hin : ∀ k, k < lay.length → A (ad g k) := fun k hk => by
    rw [← hAe]
    exact Or.inl ⟨k, _, wl_get (M := M) (List.getElem?_eq_getElem hk)⟩
  have hA : ∀ q : Nat, s.heap.size ≤ q → A q := fun q h => by rw [← hAe]; exact Or.inr h
  have hAd : AdOK g lay.length A := AdOK.of hD hin
  have hl := lv_entry vs (n := mL) hc
  rw [lg_entry_eq]
  generalize (lg_sl vs ++ List.replicate (mL - (lg_sl vs).length) Slot.unset).toArray = ls at hl ⊢
  refine body (p, l, e, _, s, m, _, below, meth, c) A _ rfl ⟨hx, hb, hml, hown, fun w hw => hts w (List.mem_cons_of_mem _ hw), hK, hN, hAd, hA, Nat.le_refl _, Nat.le_refl _⟩ ⟨Nat.zero_le _, Nat.zero_le _⟩ ?_ s.heap [] ls hP va_S.rf ⟨_, hl, fun i v hi => ?_⟩
  · intro v M1 pc lv hd hpost H locs ls2 hP1 hS1 hl1
    exact W.zret (v := v) (ty := .boolean) hx hb hr (nar_z hpost.1) (fun t ht hW => ⟨⟨v, M1, rfl, hpost.2, by show wP g lay M1 t.heap; rw [ht]; exact hP1⟩, hS1.F ht⟩) hS1.2.2 hd
  · have h1 : ∀ (l2 : List (Nat × Value)), l2.lookup i = some v → (i, v) ∈ l2 := by
      intro l2
      induction l2 with
      | nil => intro h; simp at h
      | cons q l2 ih =>
        intro h
        obtain ⟨qi, qv⟩ := q
        rw [List.lookup_cons] at h
        by_cases hq : i == qi
        · rw [hq] at h
          have e1 : i = qi := by simpa using hq
          have e2 : qv = v := Option.some.inj h
          subst e1; subst e2
          exact List.mem_cons_self
        · rw [Bool.not_eq_true] at hq
          rw [hq] at h
          exact List.mem_cons_of_mem _ (ih h)
    exact h1 _ hi
set_option maxHeartbeats 1000000 in
theorem cv_of {l : Launch} {g : GT} {lay : List CD} {y : MethodName} {bb : ByteArray} {mL h : Nat} {vs : List Value} {M : Mem} {post : Mem → Prop} (hy : plainFor y = true) (hc : (lg_sl vs).length ≤ mL)
    (body : ∀ (X : FX) (A : Nat → Prop) (Z : State → Prop), X.2.1 = l → Cx X g lay A bb mL y.cls h → 0 ≤ X.2.2.2.1.cells ∧ 0 ≤ X.2.2.2.1.slots → RetV X g lay A bb mL 0 0 Z post → AtX X g lay A mL 0 0 Z 0 (lv_args 0 vs) [] M) : CV l g lay y bb mL none h vs M post := by
  intro sz
  refine met_ofW (cc := bb) (maxL := mL) (ret := none) hy rfl ?_
  intro p e s m args below meth c s₁ B hml hv
  obtain ⟨rfl, hsz, hP, hK, hN, hD⟩ := hv
  subst hsz
  have hx := B.exec
  have hb := B.bytes
  have hr := B.returns
  have hts := atoms_spec (ws := .code y bb mL none :: GW) B.pre
  have hown : s.vm.findClass y.cls = some m.cls := findClass_of_methodNamed B.named
  have hlocks := B.notSynchronized
  generalize hAe : frW g lay M s.heap.size = A
  have hin : ∀ k, k < lay.length → A (ad g k) := fun k hk => by
    rw [← hAe]
    exact Or.inl ⟨k, _, wl_get (M := M) (List.getElem?_eq_getElem hk)⟩
  have hA : ∀ q : Nat, s.heap.size ≤ q → A q := fun q h => by rw [← hAe]; exact Or.inr h
  have hAd : AdOK g lay.length A := AdOK.of hD hin
  have hl := lv_entry vs (n := mL) hc
  rw [lg_entry_eq]
  generalize (lg_sl vs ++ List.replicate (mL - (lg_sl vs).length) Slot.unset).toArray = ls at hl ⊢
  refine body (p, l, e, _, s, m, _, below, meth, c) A _ rfl ⟨hx, hb, hml, hown, fun w hw => hts w (List.mem_cons_of_mem _ hw), hK, hN, hAd, hA, Nat.le_refl _, Nat.le_refl _⟩ ⟨Nat.zero_le _, Nat.zero_le _⟩ ?_ s.heap [] ls hP va_S.rf ⟨_, hl, fun i v hi => ?_⟩
  · intro M1 pc lv hd hpost H locs ls2 hP1 hS1 hl1
    exact W.vret hx hb hr (fun t ht hW => ⟨⟨M1, rfl, hpost, by show wP g lay M1 t.heap; rw [ht]; exact hP1⟩, hS1.F ht⟩) hS1.2.2 hd
  · have h1 : ∀ (l2 : List (Nat × Value)), l2.lookup i = some v → (i, v) ∈ l2 := by
      intro l2
      induction l2 with
      | nil => intro h; simp at h
      | cons q l2 ih =>
        intro h
        obtain ⟨qi, qv⟩ := q
        rw [List.lookup_cons] at h
        by_cases hq : i == qi
        · rw [hq] at h
          have e1 : i = qi := by simpa using hq
          have e2 : qv = v := Option.some.inj h
          subst e1; subst e2
          exact List.mem_cons_self
        · rw [Bool.not_eq_true] at hq
          rw [hq] at h
          exact List.mem_cons_of_mem _ (ih h)
    exact h1 _ hi
