/-! FRAMES OVER ANY LIST OF CELLS (printed by atn.py): constructors, the law, its helpers -/
def AtN (X : FX) (D : va_G) (ws : va_W) (A : Nat → Prop) (nL kc ks : Nat) (Z : State → Prop) (pc : Nat) (lv : List (Nat × Value)) (st : List Value) : Prop :=
  ∀ (H : Heap) (locs : List Loc) (ls : Array Slot), va_P D vwCl ws H → va_D A ws → va_S A (xs X).heap H locs → lvk ls nL lv → xW X H locs kc ks Z (xF X pc ls st)
def CxN (X : FX) (D : va_G) (tyl : List (ClassId × FieldType)) (A : Nat → Prop) (b : ByteArray) (nL : Nat) (own : String) (h nc ns : Nat) : Prop :=
  X.1.tables.exec = Jvm.exec ∧ X.2.2.2.2.2.2.2.2.2.code = b ∧ X.2.2.2.2.2.2.2.2.2.maxLocals = nL ∧ (xs X).vm.findClass own = some X.2.2.2.2.2.1.cls ∧ (∀ w ∈ GW, w.before X.2.2.2.2.2.2.1 (xs X) = true) ∧
  va_K D vwCl tyl (xs X) ∧ NW (xs X) ∧ (∀ q, (xs X).heap.size ≤ q → A q) ∧ h ≤ X.2.2.2.1.frames ∧ 64 * h ≤ X.2.2.2.1.locals ∧ nc ≤ X.2.2.2.1.cells ∧ ns ≤ X.2.2.2.1.slots ∧ va_AO RX1 (xs X)
/-! lists of cells: apart, as sets of addresses -/
theorem vd_iff {A : Nat → Prop} {ws : va_W} : va_D A ws ↔ (ws.map Prod.fst).Nodup ∧ ∀ q ∈ ws, A q.1 := by
  constructor
  · intro h
    refine ⟨?_, fun q hq => ?_⟩
    · rw [List.nodup_iff_pairwise_ne, List.pairwise_iff_getElem]
      intro i j hi hj hij e
      simp only [List.length_map] at hi hj
      simp only [List.getElem_map] at e
      have := h.1 i j _ _ (List.getElem?_eq_getElem hi) (List.getElem?_eq_getElem hj) e
      omega
    · obtain ⟨k, hk⟩ := List.getElem?_of_mem hq
      exact h.2 k q hk
  · intro h
    refine ⟨fun i j p q hp hq e => ?_, fun k q hk => h.2 q (List.mem_of_getElem? hk)⟩
    have hn := h.1
    rw [List.nodup_iff_pairwise_ne, List.pairwise_iff_getElem] at hn
    obtain ⟨hi, hi2⟩ := List.getElem?_eq_some_iff.mp hp
    obtain ⟨hj, hj2⟩ := List.getElem?_eq_some_iff.mp hq
    rcases Nat.lt_trichotomy i j with h1 | h1 | h1
    · exact absurd (show (ws.map Prod.fst)[i]'(by simpa using hi) = (ws.map Prod.fst)[j]'(by simpa using hj) by rw [List.getElem_map, List.getElem_map, hi2, hj2]; exact e) (hn i j (by simpa using hi) (by simpa using hj) h1)
    · exact h1
    · exact absurd (show (ws.map Prod.fst)[j]'(by simpa using hj) = (ws.map Prod.fst)[i]'(by simpa using hi) by rw [List.getElem_map, List.getElem_map, hi2, hj2]; exact e.symm) (hn j i (by simpa using hj) (by simpa using hi) h1)
theorem vp_iff {D : va_G} {cl : List vw_C} {ws : va_W} {H : Heap} : va_P D cl ws H ↔ ∀ q ∈ ws, va_at D cl q H := by
  constructor
  · intro h q hq
    obtain ⟨k, hk⟩ := List.getElem?_of_mem hq
    exact h k q hk
  · intro h k q hk
    exact h q (List.mem_of_getElem? hk)
theorem vat_lt {D : va_G} {cl : List vw_C} {q : Nat × va_E} {H : Heap} (h : va_at D cl q H) : q.1 < H.size := va_at.lt h
theorem vat_kept {D : va_G} {cl : List vw_C} {q : Nat × va_E} {H H1 : Heap} (h : va_at D cl q H) (e : H1[q.1]? = H[q.1]?) : va_at D cl q H1 := by
  have h1 : va_P D cl [q] H := vp_iff.mpr (fun x hx => by rw [List.mem_singleton.mp hx]; exact h)
  exact vp_iff.mp (va_P.kept h1 (fun k x hx => by
    have : x = q := List.mem_singleton.mp (List.mem_of_getElem? hx)
    rw [this]; exact e)) q (List.mem_singleton.mpr rfl)
theorem va_A_iff {w : va_W} {sz q : Nat} : va_A w sz q ↔ q ∈ w.map Prod.fst ∨ sz ≤ q := by
  constructor
  · rintro (⟨k, e, h⟩ | h)
    · exact Or.inl (List.mem_map.mpr ⟨_, List.mem_of_getElem? h, rfl⟩)
    · exact Or.inr h
  · rintro (h | h)
    · obtain ⟨x, hx, e⟩ := List.mem_map.mp h
      obtain ⟨k, hk⟩ := List.getElem?_of_mem hx
      refine Or.inl ⟨k, x.2, ?_⟩
      rw [hk, ← e]
    · exact Or.inr h
/-- the frame rule: what a call did to w, beside what it did not touch -/
theorem fj {D : va_G} {cl : List vw_C} {A : Nat → Prop} {pre w suf w1 : va_W} {H H1 : Heap} (hP : va_P D cl (pre ++ w ++ suf) H) (hD : va_D A (pre ++ w ++ suf)) (hA : ∀ q, H.size ≤ q → A q)
    (hk : ∀ q : Nat, q < H.size → ¬ va_A w H.size q → H1[q]? = H[q]?) (hP1 : va_P D cl w1 H1) (hD1 : va_D (va_A w H.size) w1) : va_P D cl (pre ++ w1 ++ suf) H1 ∧ va_D A (pre ++ w1 ++ suf) := by
  rw [vp_iff] at hP hP1
  rw [vd_iff] at hD hD1
  simp only [List.map_append, List.nodup_append] at hD
  obtain ⟨⟨⟨⟨n1, n2, n12⟩, n3, n123⟩, hA0⟩, ⟨m1, mA⟩⟩ := (⟨hD, hD1⟩ : _ ∧ _)
  have out : ∀ q, (q ∈ pre ∨ q ∈ suf) → ¬ va_A w H.size q.1 ∧ q.1 < H.size := by
    intro q hq
    have hlt : q.1 < H.size := vat_lt (hP q (by
      rcases hq with h | h
      · exact List.mem_append_left _ (List.mem_append_left _ h)
      · exact List.mem_append_right _ h))
    refine ⟨fun h => ?_, hlt⟩
    rcases va_A_iff.mp h with h | h
    · rcases hq with hq | hq
      · exact n12 q.1 (List.mem_map.mpr ⟨q, hq, rfl⟩) q.1 h rfl
      · exact n123 q.1 (List.mem_append_right _ h) q.1 (List.mem_map.mpr ⟨q, hq, rfl⟩) rfl
    · omega
  have keep : ∀ q, (q ∈ pre ∨ q ∈ suf) → va_at D cl q H1 := by
    intro q hq
    have ho := out q hq
    refine vat_kept (hP q ?_) (hk q.1 ho.2 ho.1)
    rcases hq with h | h
    · exact List.mem_append_left _ (List.mem_append_left _ h)
    · exact List.mem_append_right _ h
  have inA : ∀ q ∈ w1, A q.1 := by
    intro q hq
    rcases va_A_iff.mp (mA q hq) with h | h
    · obtain ⟨x, hx, e⟩ := List.mem_map.mp h
      rw [← e]
      exact hA0 x (List.mem_append_left _ (List.mem_append_right _ hx))
    · exact hA q.1 h
  refine ⟨vp_iff.mpr (fun q hq => ?_), vd_iff.mpr ⟨?_, fun q hq => ?_⟩⟩
  · simp only [List.mem_append] at hq
    rcases hq with (h | h) | h
    · exact keep q (Or.inl h)
    · exact hP1 q h
    · exact keep q (Or.inr h)
  · simp only [List.map_append, List.nodup_append]
    refine ⟨⟨n1, m1, fun a ha b hb e => ?_⟩, n3, fun a ha b hb e => ?_⟩
    · obtain ⟨x, hx, ex⟩ := List.mem_map.mp ha
      obtain ⟨y, hy, ey⟩ := List.mem_map.mp hb
      have h1 := mA y hy
      rw [ey, ← e, ← ex] at h1
      exact (out x (Or.inl hx)).1 h1
    · obtain ⟨y, hy, ey⟩ := List.mem_map.mp hb
      rcases List.mem_append.mp ha with ha | ha
      · exact n123 a (List.mem_append_left _ ha) b hb e
      · obtain ⟨x, hx, ex⟩ := List.mem_map.mp ha
        have h1 := mA x hx
        rw [ex, e, ← ey] at h1
        exact (out y (Or.inr hy)).1 h1
  · simp only [List.mem_append] at hq
    rcases hq with (h | h) | h
    · exact hA0 q (List.mem_append_left _ (List.mem_append_left _ h))
    · exact inA q h
    · exact hA0 q (List.mem_append_right _ h)
section ATN
variable {X : FX} {D : va_G} {tyl : List (ClassId × FieldType)} {ws : va_W} {A : Nat → Prop} {b : ByteArray} {nL kc ks h nc ns : Nat} {own : String} {Z : State → Prop} {pc : Nat} {lv : List (Nat × Value)} {st : List Value}
theorem n_iconst (C : CxN X D tyl A b nL own h nc ns) {n : Int} (v : Int32) (hd : decode b pc = .ok (.iconst n, 1)) (hv : Int32.ofInt n = v) (K : AtN X D ws A nL kc ks Z (pc + 1) lv (.int v :: st)) : AtN X D ws A nL kc ks Z (pc) lv (st) := fun H locs ls hP hD hS hl => lv_iconst C.1 C.2.1 hd hv (K H locs ls hP hD hS hl)
theorem n_bipush (C : CxN X D tyl A b nL own h nc ns) {n : Int} (v : Int32) (hd : decode b pc = .ok (.bipush n, 2)) (hv : (Int8.ofInt n).toInt32 = v) (K : AtN X D ws A nL kc ks Z (pc + 2) lv (.int v :: st)) : AtN X D ws A nL kc ks Z (pc) lv (st) := fun H locs ls hP hD hS hl => lv_bipush C.1 C.2.1 hd hv (K H locs ls hP hD hS hl)
theorem n_sipush (C : CxN X D tyl A b nL own h nc ns) {n : Int} (v : Int32) (hd : decode b pc = .ok (.sipush n, 3)) (hv : (Int16.ofInt n).toInt32 = v) (K : AtN X D ws A nL kc ks Z (pc + 3) lv (.int v :: st)) : AtN X D ws A nL kc ks Z (pc) lv (st) := fun H locs ls hP hD hS hl => lv_sipush C.1 C.2.1 hd hv (K H locs ls hP hD hS hl)
theorem n_ldc (C : CxN X D tyl A b nL own h nc ns) {idx : Nat} {v : Int32} (hc : Cond.constant own idx v ∈ GW) (hd : decode b pc = .ok (.ldc idx, 2)) (K : AtN X D ws A nL kc ks Z (pc + 2) lv (.int v :: st)) : AtN X D ws A nL kc ks Z (pc) lv (st) := fun H locs ls hP hD hS hl => lv_ldc C.1 C.2.1 C.2.2.2.1 (C.2.2.2.2.1 _ hc) hd (K H locs ls hP hD hS hl)
theorem n_iload_n (C : CxN X D tyl A b nL own h nc ns) {k : Fin 4} {x : Int32} (hd : decode b pc = .ok (.iload_n k, 1)) (hk : lv.lookup (k : Nat) = some (.int x)) (K : AtN X D ws A nL kc ks Z (pc + 1) lv (.int x :: st)) : AtN X D ws A nL kc ks Z (pc) lv (st) := fun H locs ls hP hD hS hl => lv_iload_n C.1 C.2.1 hd rfl (hl.get hk) (K H locs ls hP hD hS hl)
theorem n_iload (C : CxN X D tyl A b nL own h nc ns) {k : Nat} {x : Int32} (hd : decode b pc = .ok (.iload k, 2)) (hk : lv.lookup k = some (.int x)) (K : AtN X D ws A nL kc ks Z (pc + 2) lv (.int x :: st)) : AtN X D ws A nL kc ks Z (pc) lv (st) := fun H locs ls hP hD hS hl => lv_iload C.1 C.2.1 hd (hl.get hk) (K H locs ls hP hD hS hl)
theorem n_istore_n (C : CxN X D tyl A b nL own h nc ns) {k : Fin 4} {x : Int32} (hd : decode b pc = .ok (.istore_n k, 1)) (hk : (k : Nat) < nL) (hz : lv.all (fun q => !(q.1 + 1 == (k : Nat)) || q.2.category == 1) = true) (K : AtN X D ws A nL kc ks Z (pc + 1) (((k : Nat), .int x) :: lv) (st)) : AtN X D ws A nL kc ks Z (pc) lv (.int x :: st) := by
  intro H locs ls hP hD hS hl
  obtain ⟨l, h1, h2⟩ := hl
  exact lv_istore_n C.1 C.2.1 hd rfl h1 hk rfl (fun ls' hl' => K H locs ls' hP hD hS ⟨_, hl', lvk.filt hz h2⟩)
theorem n_istore (C : CxN X D tyl A b nL own h nc ns) {k : Nat} {x : Int32} (hd : decode b pc = .ok (.istore k, 2)) (hk : k < nL) (hz : lv.all (fun q => !(q.1 + 1 == k) || q.2.category == 1) = true) (K : AtN X D ws A nL kc ks Z (pc + 2) ((k, .int x) :: lv) (st)) : AtN X D ws A nL kc ks Z (pc) lv (.int x :: st) := by
  intro H locs ls hP hD hS hl
  obtain ⟨l, h1, h2⟩ := hl
  exact lv_istore C.1 C.2.1 hd h1 hk rfl (fun ls' hl' => K H locs ls' hP hD hS ⟨_, hl', lvk.filt hz h2⟩)
theorem n_aload_n (C : CxN X D tyl A b nL own h nc ns) {k : Fin 4} {x : Nat} (hd : decode b pc = .ok (.aload_n k, 1)) (hk : lv.lookup (k : Nat) = some (.ref x)) (K : AtN X D ws A nL kc ks Z (pc + 1) lv (.ref x :: st)) : AtN X D ws A nL kc ks Z (pc) lv (st) := fun H locs ls hP hD hS hl => lv_aload_n C.1 C.2.1 hd rfl (hl.get hk) (K H locs ls hP hD hS hl)
theorem n_aload (C : CxN X D tyl A b nL own h nc ns) {k : Nat} {x : Nat} (hd : decode b pc = .ok (.aload k, 2)) (hk : lv.lookup k = some (.ref x)) (K : AtN X D ws A nL kc ks Z (pc + 2) lv (.ref x :: st)) : AtN X D ws A nL kc ks Z (pc) lv (st) := fun H locs ls hP hD hS hl => lv_aload C.1 C.2.1 hd (hl.get hk) (K H locs ls hP hD hS hl)
theorem n_astore_n (C : CxN X D tyl A b nL own h nc ns) {k : Fin 4} {x : Nat} (hd : decode b pc = .ok (.astore_n k, 1)) (hk : (k : Nat) < nL) (hz : lv.all (fun q => !(q.1 + 1 == (k : Nat)) || q.2.category == 1) = true) (K : AtN X D ws A nL kc ks Z (pc + 1) (((k : Nat), .ref x) :: lv) (st)) : AtN X D ws A nL kc ks Z (pc) lv (.ref x :: st) := by
  intro H locs ls hP hD hS hl
  obtain ⟨l, h1, h2⟩ := hl
  exact lv_astore_n C.1 C.2.1 hd rfl h1 hk rfl (fun ls' hl' => K H locs ls' hP hD hS ⟨_, hl', lvk.filt hz h2⟩)
theorem n_astore (C : CxN X D tyl A b nL own h nc ns) {k : Nat} {x : Nat} (hd : decode b pc = .ok (.astore k, 2)) (hk : k < nL) (hz : lv.all (fun q => !(q.1 + 1 == k) || q.2.category == 1) = true) (K : AtN X D ws A nL kc ks Z (pc + 2) ((k, .ref x) :: lv) (st)) : AtN X D ws A nL kc ks Z (pc) lv (.ref x :: st) := by
  intro H locs ls hP hD hS hl
  obtain ⟨l, h1, h2⟩ := hl
  exact lv_astore C.1 C.2.1 hd h1 hk rfl (fun ls' hl' => K H locs ls' hP hD hS ⟨_, hl', lvk.filt hz h2⟩)
theorem n_iadd (C : CxN X D tyl A b nL own h nc ns) {x y : Int32} (hd : decode b pc = .ok (.iadd, 1)) (K : AtN X D ws A nL kc ks Z (pc + 1) lv (.int (x + y) :: st)) : AtN X D ws A nL kc ks Z (pc) lv (.int y :: .int x :: st) := fun H locs ls hP hD hS hl => lv_iadd C.1 C.2.1 hd (K H locs ls hP hD hS hl)
theorem n_isub (C : CxN X D tyl A b nL own h nc ns) {x y : Int32} (hd : decode b pc = .ok (.isub, 1)) (K : AtN X D ws A nL kc ks Z (pc + 1) lv (.int (x - y) :: st)) : AtN X D ws A nL kc ks Z (pc) lv (.int y :: .int x :: st) := fun H locs ls hP hD hS hl => lv_isub C.1 C.2.1 hd (K H locs ls hP hD hS hl)
theorem n_iand (C : CxN X D tyl A b nL own h nc ns) {x y : Int32} (hd : decode b pc = .ok (.iand, 1)) (K : AtN X D ws A nL kc ks Z (pc + 1) lv (.int (x &&& y) :: st)) : AtN X D ws A nL kc ks Z (pc) lv (.int y :: .int x :: st) := fun H locs ls hP hD hS hl => lv_iand C.1 C.2.1 hd (K H locs ls hP hD hS hl)
theorem n_i2l (C : CxN X D tyl A b nL own h nc ns) {x : Int32} (hd : decode b pc = .ok (.i2l, 1)) (K : AtN X D ws A nL kc ks Z (pc + 1) lv (.long x.toInt64 :: st)) : AtN X D ws A nL kc ks Z (pc) lv (.int x :: st) := fun H locs ls hP hD hS hl => lv_i2l C.1 C.2.1 hd rfl (K H locs ls hP hD hS hl)
theorem n_lconst (C : CxN X D tyl A b nL own h nc ns) {n : Fin 2} (v : Int64) (hd : decode b pc = .ok (.lconst n, 1)) (hv : Int64.ofNat (n : Nat) = v) (K : AtN X D ws A nL kc ks Z (pc + 1) lv (.long v :: st)) : AtN X D ws A nL kc ks Z (pc) lv (st) := fun H locs ls hP hD hS hl => lv_lconst C.1 C.2.1 hd hv (K H locs ls hP hD hS hl)
theorem n_lcmp (C : CxN X D tyl A b nL own h nc ns) {x y : Int64} (hd : decode b pc = .ok (.lcmp, 1)) (K : AtN X D ws A nL kc ks Z (pc + 1) lv (.int (lg_cmp x y) :: st)) : AtN X D ws A nL kc ks Z (pc) lv (.long y :: .long x :: st) := fun H locs ls hP hD hS hl => W.lcmp C.1 C.2.1 hd (K H locs ls hP hD hS hl)
theorem n_dupr (C : CxN X D tyl A b nL own h nc ns) {x : Nat} (hd : decode b pc = .ok (.dup, 1)) (K : AtN X D ws A nL kc ks Z (pc + 1) lv (.ref x :: .ref x :: st)) : AtN X D ws A nL kc ks Z (pc) lv (.ref x :: st) := fun H locs ls hP hD hS hl => lv_dup C.1 C.2.1 hd rfl (K H locs ls hP hD hS hl)
theorem n_dupi (C : CxN X D tyl A b nL own h nc ns) {x : Int32} (hd : decode b pc = .ok (.dup, 1)) (K : AtN X D ws A nL kc ks Z (pc + 1) lv (.int x :: .int x :: st)) : AtN X D ws A nL kc ks Z (pc) lv (.int x :: st) := fun H locs ls hP hD hS hl => lv_dup C.1 C.2.1 hd rfl (K H locs ls hP hD hS hl)
theorem n_if_eq (C : CxN X D tyl A b nL own h nc ns) {x : Int32} {off : Int} (tgt : Nat) (hd : decode b pc = .ok (.ifCond .eq off, 3)) (ht : (pc : Int) + off = (tgt : Int)) (K : x = 0 → AtN X D ws A nL kc ks Z (tgt) lv (st)) (K2 : ¬ x = 0 → AtN X D ws A nL kc ks Z (pc + 3) lv (st)) : AtN X D ws A nL kc ks Z (pc) lv (.int x :: st) := fun H locs ls hP hD hS hl => lv_if_eq C.1 C.2.1 hd ht (fun c => K c H locs ls hP hD hS hl) (fun c => K2 c H locs ls hP hD hS hl)
theorem n_if_ne (C : CxN X D tyl A b nL own h nc ns) {x : Int32} {off : Int} (tgt : Nat) (hd : decode b pc = .ok (.ifCond .ne off, 3)) (ht : (pc : Int) + off = (tgt : Int)) (K : ¬ x = 0 → AtN X D ws A nL kc ks Z (tgt) lv (st)) (K2 : x = 0 → AtN X D ws A nL kc ks Z (pc + 3) lv (st)) : AtN X D ws A nL kc ks Z (pc) lv (.int x :: st) := fun H locs ls hP hD hS hl => lv_if_ne C.1 C.2.1 hd ht (fun c => K c H locs ls hP hD hS hl) (fun c => K2 c H locs ls hP hD hS hl)
theorem n_icmp_eq (C : CxN X D tyl A b nL own h nc ns) {x y : Int32} {off : Int} (tgt : Nat) (hd : decode b pc = .ok (.if_icmp .eq off, 3)) (ht : (pc : Int) + off = (tgt : Int)) (K : x = y → AtN X D ws A nL kc ks Z (tgt) lv (st)) (K2 : ¬ x = y → AtN X D ws A nL kc ks Z (pc + 3) lv (st)) : AtN X D ws A nL kc ks Z (pc) lv (.int y :: .int x :: st) := fun H locs ls hP hD hS hl => lv_icmp_eq C.1 C.2.1 hd ht (fun c => K c H locs ls hP hD hS hl) (fun c => K2 c H locs ls hP hD hS hl)
theorem n_icmp_ne (C : CxN X D tyl A b nL own h nc ns) {x y : Int32} {off : Int} (tgt : Nat) (hd : decode b pc = .ok (.if_icmp .ne off, 3)) (ht : (pc : Int) + off = (tgt : Int)) (K : ¬ x = y → AtN X D ws A nL kc ks Z (tgt) lv (st)) (K2 : x = y → AtN X D ws A nL kc ks Z (pc + 3) lv (st)) : AtN X D ws A nL kc ks Z (pc) lv (.int y :: .int x :: st) := fun H locs ls hP hD hS hl => lv_icmp_ne C.1 C.2.1 hd ht (fun c => K c H locs ls hP hD hS hl) (fun c => K2 c H locs ls hP hD hS hl)
theorem n_icmp_gt (C : CxN X D tyl A b nL own h nc ns) {x y : Int32} {off : Int} (tgt : Nat) (hd : decode b pc = .ok (.if_icmp .gt off, 3)) (ht : (pc : Int) + off = (tgt : Int)) (K : y < x → AtN X D ws A nL kc ks Z (tgt) lv (st)) (K2 : ¬ y < x → AtN X D ws A nL kc ks Z (pc + 3) lv (st)) : AtN X D ws A nL kc ks Z (pc) lv (.int y :: .int x :: st) := fun H locs ls hP hD hS hl => lv_icmp_gt C.1 C.2.1 hd ht (fun c => K c H locs ls hP hD hS hl) (fun c => K2 c H locs ls hP hD hS hl)
theorem n_goto (C : CxN X D tyl A b nL own h nc ns) {off : Int} (tgt : Nat) (hd : decode b pc = .ok (.goto off, 3)) (ht : (pc : Int) + off = (tgt : Int)) (K : AtN X D ws A nL kc ks Z (tgt) lv (st)) : AtN X D ws A nL kc ks Z (pc) lv (st) := fun H locs ls hP hD hS hl => lv_goto C.1 C.2.1 hd ht (K H locs ls hP hD hS hl)
theorem n_tswI (C : CxN X D tyl A b nL own h nc ns) {dflt lo hi : Int} {offs : Array Int} {len : Nat} {v : Int32} (off : Int) (tgt : Nat) (hd : decode b pc = .ok (.tableswitch dflt lo hi offs, len)) (hc : decide (¬ v.toInt < lo ∧ ¬ hi < v.toInt ∧ offs[(v.toInt - lo).toNat]? = some off) = true) (ht : (pc : Int) + off = (tgt : Int)) (K : AtN X D ws A nL kc ks Z (tgt) lv (st)) : AtN X D ws A nL kc ks Z (pc) lv (.int v :: st) := by
  have hc := of_decide_eq_true hc
  exact fun H locs ls hP hD hS hl => lv_tableIn C.1 C.2.1 hd hc.1 hc.2.1 hc.2.2 ht (K H locs ls hP hD hS hl)
theorem n_tswO (C : CxN X D tyl A b nL own h nc ns) {dflt lo hi : Int} {offs : Array Int} {len : Nat} {x : Int32} (tgt : Nat) (hd : decode b pc = .ok (.tableswitch dflt lo hi offs, len)) (hc : x.toInt < lo ∨ hi < x.toInt) (ht : (pc : Int) + dflt = (tgt : Int)) (K : AtN X D ws A nL kc ks Z (tgt) lv (st)) : AtN X D ws A nL kc ks Z (pc) lv (.int x :: st) := fun H locs ls hP hD hS hl => lv_tableOut C.1 C.2.1 hd hc ht (K H locs ls hP hD hS hl)
theorem n_ws {ws2 : va_W} (e : ws = ws2) (K : AtN X D ws2 A nL kc ks Z pc lv st) : AtN X D ws A nL kc ks Z pc lv st := e ▸ K
theorem n_to {pc2 kc2 ks2 : Nat} (e1 : pc = pc2) (e2 : kc ≤ kc2) (e3 : ks ≤ ks2) (K : AtN X D ws A nL kc2 ks2 Z pc2 lv st) : AtN X D ws A nL kc ks Z pc lv st := fun H locs ls hP hD hS hl => by subst e1; exact W.widen e2 e3 (K H locs ls hP hD hS hl)
theorem n_objInit (C : CxN X D tyl A b nL own h nc ns) {idx a : Nat} (hlk : Cond.methodLink own idx Lib.objectInit ∈ GW) (hin : Cond.instanceMethod Lib.objectInit ∈ GW) (hcd : Cond.code Lib.objectInit ⟨#[0xb1]⟩ 1 none ∈ GW) (hh : 1 ≤ h) (hw : (st.map fun v => v.category).sum ≤ 8) (hd : decode b pc = .ok (.invokespecial idx, 3)) (K : AtN X D ws A nL kc ks Z (pc + 3) lv st) : AtN X D ws A nL kc ks Z pc lv (.ref a :: st) := by
  intro H locs ls hP hD hS hl
  have r1 := C.2.2.2.2.2.2.2.2.1
  have r2 := C.2.2.2.2.2.2.2.2.2.1
  exact W.objInit C.1 C.2.1 C.2.2.2.1 (C.2.2.2.2.1 _ hlk) (C.2.2.2.2.1 _ hin) (C.2.2.2.2.1 _ hcd) rfl (hl.size.trans C.2.2.1.symm) rfl hd (by omega) (by show 2 * 0 + (st.map fun v => v.category).sum + 12 ≤ _; omega) (K H locs ls hP hD hS hl)
theorem n_get (C : CxN X D tyl A b nL own h nc ns) {C0 : String} {T : u_T} {N idx ci k a : Nat} {fs : List Value} {v : Value} (f : FldG own idx ci k C0 T N) (q0 : Nat) (he : ws[q0]? = some (a, .inr (ci, fs))) (hv : fs[k]? = some v) (hd : decode b pc = .ok (.getfield idx, 3)) (K : AtN X D ws A nL kc ks Z (pc + 3) lv (v :: st)) : AtN X D ws A nL kc ks Z pc lv (.ref a :: st) := fun H locs ls hP hD hS hl =>
  va_get C.1 C.2.1 C.2.2.2.2.1 f.2.2.1 C.2.2.2.1 C.2.2.2.2.2.1 hP q0 he f.1 k f.2.1 (C.2.2.2.2.1 _ f.2.2.2) (fun _ h9 => h9) hv hd (K H locs ls hP hD hS hl)
theorem n_putF (C : CxN X D tyl A b nL own h nc ns) (hm : X.2.2.2.2.2.2.2.2.1.name = "<init>") {C0 : String} {T : u_T} {N idx ci k a : Nat} {fs : List Value} {v : Value} {ty0 : Nat → FieldType} {ty : FieldType} (f : FldG own idx ci k C0 T N) (hty : ∀ k, k < N → parseFieldDescriptor (T k).2.2.1 = some (ty0 k)) (hnm : ∀ a, a < N → ∀ b, b < N → a ≠ b → (T a).2.1 ≠ (T b).2.1) (hfin : (T k).2.2.2 = true) (hdecl : (T k).1 = own) (hpd : parseFieldDescriptor (T k).2.2.1 = some ty) (hn : narrow ty v = v) (hfit : fits ty v = true) (q0 : Nat) (he : ws[q0]? = some (a, .inr (ci, fs))) (hl0 : k < fs.length) (hd : decode b pc = .ok (.putfield idx, 3)) (K : AtN X D (ws.set q0 (a, .inr (ci, fs.set k v))) A nL kc ks Z (pc + 3) lv st) : AtN X D ws A nL kc ks Z pc lv (v :: .ref a :: st) := fun H locs ls hP hD hS hl =>
  va_putF C.1 C.2.1 C.2.2.2.2.1 f.2.2.1 ty0 hty hnm C.2.2.2.1 C.2.2.2.2.2.1 hP hD hS q0 he f.1 k f.2.1 (C.2.2.2.2.1 _ f.2.2.2) (fun _ h9 => h9) hfin hm hdecl hpd hn hfit hl0 hd (fun H1 locs1 hP1 hD1 hS1 => K H1 locs1 ls hP1 hD1 hS1 hl)
theorem n_put (C : CxN X D tyl A b nL own h nc ns) {C0 : String} {T : u_T} {N idx ci k a : Nat} {fs : List Value} {v : Value} {ty : FieldType} (f : FldG own idx ci k C0 T N) (f2 : FldP k T N ty) (hn : narrow ty v = v) (hfit : fits ty v = true) (q0 : Nat) (he : ws[q0]? = some (a, .inr (ci, fs))) (hl0 : k < fs.length) (hd : decode b pc = .ok (.putfield idx, 3)) (K : AtN X D (ws.set q0 (a, .inr (ci, fs.set k v))) A nL kc ks Z (pc + 3) lv st) : AtN X D ws A nL kc ks Z pc lv (v :: .ref a :: st) := by
  obtain ⟨⟨ty0, hty⟩, hnm, hfin, hpd⟩ := f2
  intro H locs ls hP hD hS hl
  exact va_put C.1 C.2.1 C.2.2.2.2.1 f.2.2.1 ty0 hty hnm C.2.2.2.1 C.2.2.2.2.2.1 hP hD hS q0 he f.1 k f.2.1 (C.2.2.2.2.1 _ f.2.2.2) (fun _ h9 => h9) hfin hpd hn hfit hl0 hd (fun H1 locs1 hP1 hD1 hS1 => K H1 locs1 ls hP1 hD1 hS1 hl)
theorem n_new (C : CxN X D tyl A b nL own h nc ns) {C0 : String} {T : u_T} {N idx ci : Nat} {fs : List Value} (ty : Nat → FieldType) (hty : ∀ k, k < N → parseFieldDescriptor (T k).2.2.1 = some (ty k)) (hin : ∀ w ∈ u_ws C0 T N, w ∈ GW) (hcl : Cond.classLink own idx C0 ∈ GW) (hinst : Cond.instantiable C0 N ∈ GW) (hini : Cond.initialized C0 ∈ GW) (hc : vwCl[ci]? = some (C0, T, N)) (hfs : ∀ j, j < N → defaultValue (ty j) = vp_V fs j) (hkc : kc + 1 ≤ nc) (hks : ks + N ≤ ns) (hd : decode b pc = .ok (.new idx, 3)) (K : ∀ q : Nat, AtN X D (ws ++ [(q, .inr (ci, fs))]) A nL (kc + 1) (ks + N) Z (pc + 3) lv (.ref q :: st)) : AtN X D ws A nL kc ks Z pc lv st := fun H locs ls hP hD hS hl =>
  va_new C.1 C.2.1 C.2.2.2.2.1 hin ty hty C.2.2.2.1 (C.2.2.2.2.1 _ hcl) (C.2.2.2.2.1 _ hinst) (C.2.2.2.2.1 _ hini) C.2.2.2.2.2.1 hP hD hS C.2.2.2.2.2.2.2.1 hc hfs (Nat.le_trans hkc C.2.2.2.2.2.2.2.2.2.2.1) (Nat.le_trans hks C.2.2.2.2.2.2.2.2.2.2.2.1) hd (fun q H1 hP1 hD1 hS1 => K q H1 locs ls hP1 hD1 hS1 hl)
theorem n_newaI {g : GT} (C : CxN X (g.1, g.2.1) (tys g) A b nL own h nc ns) {n : Int32} {N' : Nat} (harr : Cond.arrayClass .int ∈ GW) (hn : ¬ n < 0) (hN : n.toNatClampNeg = N') (hN2 : N' ≤ 10000) (hkc : kc + 1 ≤ nc) (hks : ks + N' ≤ ns) (hd : decode b pc = .ok (.newarray .int, 2)) (K : ∀ q : Nat, AtN X (g.1, g.2.1) (ws ++ [(q, .inl (g.2.2.1 0, N', .inl (fun _ => 0)))]) A nL (kc + 1) (ks + N') Z (pc + 2) lv (.ref q :: st)) : AtN X (g.1, g.2.1) ws A nL kc ks Z pc lv (.int n :: st) := by
  intro H locs ls hP hD hS hl
  refine va_newa (atype := .int) (ty := .int) (a0 := (N', .inl (fun _ => 0))) C.1 C.2.1 (C.2.2.2.2.1 _ harr) rfl C.2.2.2.2.2.1 hP hD hS C.2.2.2.2.2.2.2.1 (fun cA => rfl) hn hN (by show N' * 4 ≤ _; omega) (Nat.le_trans hkc C.2.2.2.2.2.2.2.2.2.2.1) (Nat.le_trans hks C.2.2.2.2.2.2.2.2.2.2.2.1) hd (fun q cA H1 hK hP1 hD1 hS1 => ?_)
  have e : cA = g.2.2.1 0 := Option.some.inj ((hK.2 4 (cA, .int) rfl).2.symm.trans (C.2.2.2.2.2.1.2 0 (g.2.2.1 0, .int) rfl).2)
  subst e
  exact K q H1 locs ls hP1 hD1 hS1 hl
theorem n_newaB {g : GT} (C : CxN X (g.1, g.2.1) (tys g) A b nL own h nc ns) {n : Int32} {N' : Nat} (harr : Cond.arrayClass .byte ∈ GW) (hn : ¬ n < 0) (hN : n.toNatClampNeg = N') (hN2 : N' ≤ 10000) (hkc : kc + 1 ≤ nc) (hks : ks + N' ≤ ns) (hd : decode b pc = .ok (.newarray .byte, 2)) (K : ∀ q : Nat, AtN X (g.1, g.2.1) (ws ++ [(q, .inl (g.2.2.1 1, N', .inl (fun _ => 0)))]) A nL (kc + 1) (ks + N') Z (pc + 2) lv (.ref q :: st)) : AtN X (g.1, g.2.1) ws A nL kc ks Z pc lv (.int n :: st) := by
  intro H locs ls hP hD hS hl
  refine va_newa (atype := .byte) (ty := .byte) (a0 := (N', .inl (fun _ => 0))) C.1 C.2.1 (C.2.2.2.2.1 _ harr) rfl C.2.2.2.2.2.1 hP hD hS C.2.2.2.2.2.2.2.1 (fun cA => rfl) hn hN (by show N' * 1 ≤ _; omega) (Nat.le_trans hkc C.2.2.2.2.2.2.2.2.2.2.1) (Nat.le_trans hks C.2.2.2.2.2.2.2.2.2.2.2.1) hd (fun q cA H1 hK hP1 hD1 hS1 => ?_)
  have e : cA = g.2.2.1 1 := Option.some.inj ((hK.2 4 (cA, .byte) rfl).2.symm.trans (C.2.2.2.2.2.1.2 1 (g.2.2.1 1, .byte) rfl).2)
  subst e
  exact K q H1 locs ls hP1 hD1 hS1 hl
theorem n_newaZ {g : GT} (C : CxN X (g.1, g.2.1) (tys g) A b nL own h nc ns) {n : Int32} {N' : Nat} (harr : Cond.arrayClass .boolean ∈ GW) (hn : ¬ n < 0) (hN : n.toNatClampNeg = N') (hN2 : N' ≤ 10000) (hkc : kc + 1 ≤ nc) (hks : ks + N' ≤ ns) (hd : decode b pc = .ok (.newarray .boolean, 2)) (K : ∀ q : Nat, AtN X (g.1, g.2.1) (ws ++ [(q, .inl (g.2.2.1 2, N', .inl (fun _ => 0)))]) A nL (kc + 1) (ks + N') Z (pc + 2) lv (.ref q :: st)) : AtN X (g.1, g.2.1) ws A nL kc ks Z pc lv (.int n :: st) := by
  intro H locs ls hP hD hS hl
  refine va_newa (atype := .boolean) (ty := .boolean) (a0 := (N', .inl (fun _ => 0))) C.1 C.2.1 (C.2.2.2.2.1 _ harr) rfl C.2.2.2.2.2.1 hP hD hS C.2.2.2.2.2.2.2.1 (fun cA => rfl) hn hN (by show N' * 1 ≤ _; omega) (Nat.le_trans hkc C.2.2.2.2.2.2.2.2.2.2.1) (Nat.le_trans hks C.2.2.2.2.2.2.2.2.2.2.2.1) hd (fun q cA H1 hK hP1 hD1 hS1 => ?_)
  have e : cA = g.2.2.1 2 := Option.some.inj ((hK.2 4 (cA, .boolean) rfl).2.symm.trans (C.2.2.2.2.2.1.2 2 (g.2.2.1 2, .boolean) rfl).2)
  subst e
  exact K q H1 locs ls hP1 hD1 hS1 hl
theorem n_iast {g : GT} (C : CxN X (g.1, g.2.1) (tys g) A b nL own h nc ns) {a n : Nat} {f : Nat → Int32} {i x : Int32} (q0 : Nat) (he : ws[q0]? = some (a, .inl (g.2.2.1 0, n, .inl f))) (hi : vp_in i n) (hd : decode b pc = .ok (.iastore, 1)) (K : AtN X (g.1, g.2.1) (ws.set q0 (a, .inl (g.2.2.1 0, n, .inl (upd f i.toNatClampNeg x)))) A nL kc ks Z (pc + 1) lv st) : AtN X (g.1, g.2.1) ws A nL kc ks Z pc lv (.int x :: .int i :: .ref a :: st) := fun H locs ls hP hD hS hl =>
  va_iast C.1 C.2.1 C.2.2.2.2.2.1 hP hD hS q0 0 he rfl hi hd (fun H1 locs1 hP1 hD1 hS1 => K H1 locs1 ls hP1 hD1 hS1 hl)
theorem n_newq {g : GT} (C : CxN X (g.1, g.2.1) (tys g) A b nL own h nc ns) {n : Int32} {N' idx : Nat} (hcl : Cond.classLink own idx RX1 ∈ GW) (hn : ¬ n < 0) (hN : n.toNatClampNeg = N') (hN2 : N' ≤ 10000) (hkc : kc + 1 ≤ nc) (hks : ks + N' ≤ ns) (hd : decode b pc = .ok (.anewarray idx, 3)) (K : ∀ q : Nat, AtN X (g.1, g.2.1) (ws ++ [(q, .inl (g.2.2.1 3, N', .inr (.inr (.inr (.inr (fun _ => none))))))]) A nL (kc + 1) (ks + N') Z (pc + 3) lv (.ref q :: st)) : AtN X (g.1, g.2.1) ws A nL kc ks Z pc lv (.int n :: st) := by
  intro H locs ls hP hD hS hl
  refine va_newq C.1 C.2.1 C.2.2.2.1 (C.2.2.2.2.1 _ hcl) C.2.2.2.2.2.2.2.2.2.2.2.2 C.2.2.2.2.2.1 hP hD hS C.2.2.2.2.2.2.2.1 hn hN (by omega) (Nat.le_trans hkc C.2.2.2.2.2.2.2.2.2.2.1) (Nat.le_trans hks C.2.2.2.2.2.2.2.2.2.2.2.1) hd (fun q cA H1 hK hP1 hD1 hS1 => ?_)
  have e : cA = g.2.2.1 3 := by
    obtain ⟨_, _, _, _, _, h1⟩ := (hK.2 4 (cA, .object RX1) rfl).2
    obtain ⟨_, _, _, _, _, h2⟩ := (C.2.2.2.2.2.1.2 3 (g.2.2.1 3, .object RX1) rfl).2
    exact Option.some.inj (h1.symm.trans h2)
  subst e
  exact K q H1 locs ls hP1 hD1 hS1 hl
/-- a constructor's contract: from one fresh cell to the cells that Wf names by their addresses -/
def CN (l : Launch) (D : va_G) (tyl : List (ClassId × FieldType)) (y : MethodName) (bb : ByteArray) (mL h nc ns ci : Nat) (fs vs : List Value) (Wf : (Nat → Nat) → va_W) : Prop :=
  ∀ h0 sz, Met l y (.code y bb mL none :: GW) { frames := h, cells := nc, slots := ns, locals := 64 * h } (va_Pc (.ref h0 :: vs) (fun U => U.heap.size = sz ∧ va_P D vwCl [(h0, .inr (ci, fs))] U.heap ∧ va_K D vwCl tyl U ∧ NW U ∧ va_AO RX1 U))
    (va_Qv (fun a : Nat → Nat => a 0 = h0) (fun a t => va_P D vwCl (Wf a) t.heap ∧ va_D (va_A [(h0, .inr (ci, fs))] sz) (Wf a)) (va_A [(h0, .inr (ci, fs))] sz)) nc ns (va_A [(h0, .inr (ci, fs))] sz)
theorem n_freeL (C : CxN X D tyl A b nL own h nc ns) {x : Nat × va_E} {H : Heap} {locs : List Loc} (hD : va_D A (ws ++ [x])) (hS : va_S A (xs X).heap H locs) : ∀ q, va_A [x] H.size q → A q := by
  intro q hq
  rcases va_A_iff.mp hq with h1 | h1
  · have e : q = x.1 := by simpa using h1
    rw [e]
    exact (vd_iff.mp hD).2 x (List.mem_append_right _ (List.mem_singleton.mpr rfl))
  · exact C.2.2.2.2.2.2.2.1 q (Nat.le_trans hS.1 h1)
theorem n_callN (C : CxN X D tyl A b nL own h nc ns) {y : MethodName} {bb : ByteArray} {mL n idx h2 nc2 ns2 ci q : Nat} {fs : List Value} {stk : List Value} {host : String} (As : List Value) {Wf : (Nat → Nat) → va_W} (hy : MeB y bb mL none n) (hyi : Cond.instanceMethod y ∈ GW) (hyn : y.name = "<init>") (hlk : Cond.methodLinkNest own idx y host ∈ NWs) (hct : CN X.2.1 D tyl y bb mL h2 nc2 ns2 ci fs As Wf) (hh : h2 + 1 ≤ h) (hstk : stk = As.reverse ++ .ref q :: st) (hn : As.length = n) (hw : (st.map fun v => v.category).sum ≤ 8) (hkc : kc + nc2 ≤ nc) (hks : ks + ns2 ≤ ns) (hd : decode b pc = .ok (.invokespecial idx, 3)) (K : ∀ a : Nat → Nat, a 0 = q → AtN X D (ws ++ Wf a) A nL (kc + nc2) (ks + ns2) Z (pc + 3) lv st) : AtN X D (ws ++ [(q, .inr (ci, fs))]) A nL kc ks Z pc lv stk := by
  subst hstk
  intro H locs ls hP hD hS hl
  have hFc := n_freeL C hD hS
  obtain ⟨h3, h4, h5, h6⟩ := hy
  have r1 := C.2.2.2.2.2.2.2.2.1
  have r2 := C.2.2.2.2.2.2.2.2.2.1
  have hPc : va_P D vwCl [(q, .inr (ci, fs))] H := vp_iff.mpr (fun x hx => vp_iff.mp hP x (List.mem_append_right _ hx))
  refine va_callv (va_runIN (As := As) (rest := st) ⟨C.1, C.2.1, C.2.2.1, C.2.2.2.1, C.2.2.2.2.1⟩ (hct q H.size) ⟨va_cnB n C.2.2.2.2.1 (gw_good0 h4) rfl rfl rfl (C.2.2.2.2.2.2.1 _ hlk) (C.2.2.2.2.1 _ h3) h5 ⟨by show h2 + 1 ≤ _; omega, by show 8 + (mL + 11) + 64 * h2 ≤ _; omega⟩, hyn, C.2.2.2.2.1 _ hyi⟩ ⟨fun a U f mk q => by obtain ⟨q0, q1, qP, qK, qN, qO⟩ := q; exact ⟨q0, q1, qP, va_K.moved (u := U) (U := U.calling f mk a) (Vm.Alike.refl U.vm) qK, NW.same (s := U) (U := U.calling f mk a) rfl qN, va_AO.moved (u := U) (U := U.calling f mk a) (Vm.Alike.refl U.vm) qO⟩, fun U hU hW => ⟨rfl, by rw [hU], by rw [hU]; exact hPc, va_K.moved hW.alike C.2.2.2.2.2.1, NW.warm hW C.2.2.2.2.2.2.1, va_AO.moved hW.alike C.2.2.2.2.2.2.2.2.2.2.2.2⟩⟩ rfl hn hl.size rfl (lv_room hw) hd ⟨Nat.le_trans hkc C.2.2.2.2.2.2.2.2.2.2.1, Nat.le_trans hks C.2.2.2.2.2.2.2.2.2.2.2.1⟩) hS (fun q _ h => hFc q h) hFc (fun u t H1 locs1 ht hvm hpost hB hz1 hk1 hS1 => ?_)
  have hj := fj (pre := ws) (w := [(q, .inr (ci, fs))]) (suf := []) (w1 := Wf u) (by rw [List.append_nil]; exact hP) (by rw [List.append_nil]; exact hD) (fun q hq => C.2.2.2.2.2.2.2.1 q (Nat.le_trans hS.1 hq)) hk1 (by rw [← ht]; exact hB.1) hB.2
  rw [List.append_nil] at hj
  exact K u hpost H1 locs1 ls hj.1 hj.2 hS1 hl
theorem n_callM (C : CxN X D tyl A b nL own h nc ns) {y : MethodName} {bb : ByteArray} {mL n idx h2 nc2 ns2 ci q : Nat} {fs : List Value} {stk : List Value} (As : List Value) {Wf : (Nat → Nat) → va_W} (hy : MeB y bb mL none n) (hyi : Cond.instanceMethod y ∈ GW) (hyn : y.name = "<init>") (hlk : Cond.methodLink own idx y ∈ GW) (hct : CN X.2.1 D tyl y bb mL h2 nc2 ns2 ci fs As Wf) (hh : h2 + 1 ≤ h) (hstk : stk = As.reverse ++ .ref q :: st) (hn : As.length = n) (hw : (st.map fun v => v.category).sum ≤ 8) (hkc : kc + nc2 ≤ nc) (hks : ks + ns2 ≤ ns) (hd : decode b pc = .ok (.invokespecial idx, 3)) (K : ∀ a : Nat → Nat, a 0 = q → AtN X D (ws ++ Wf a) A nL (kc + nc2) (ks + ns2) Z (pc + 3) lv st) : AtN X D (ws ++ [(q, .inr (ci, fs))]) A nL kc ks Z pc lv stk := by
  subst hstk
  intro H locs ls hP hD hS hl
  have hFc := n_freeL C hD hS
  obtain ⟨h3, h4, h5, h6⟩ := hy
  have r1 := C.2.2.2.2.2.2.2.2.1
  have r2 := C.2.2.2.2.2.2.2.2.2.1
  have hPc : va_P D vwCl [(q, .inr (ci, fs))] H := vp_iff.mpr (fun x hx => vp_iff.mp hP x (List.mem_append_right _ hx))
  refine va_callv (va_runI (As := As) (rest := st) ⟨C.1, C.2.1, C.2.2.1, C.2.2.2.1, C.2.2.2.2.1⟩ (hct q H.size) ⟨callB_of n C.2.2.2.2.1 (gw_good0 h4) rfl rfl rfl (C.2.2.2.2.1 _ h3) (C.2.2.2.2.1 _ hlk) h5 ⟨by show h2 + 1 ≤ _; omega, by show 8 + (mL + 11) + 64 * h2 ≤ _; omega⟩, hyn, C.2.2.2.2.1 _ hyi⟩ ⟨fun a U f mk q => by obtain ⟨q0, q1, qP, qK, qN, qO⟩ := q; exact ⟨q0, q1, qP, va_K.moved (u := U) (U := U.calling f mk a) (Vm.Alike.refl U.vm) qK, NW.same (s := U) (U := U.calling f mk a) rfl qN, va_AO.moved (u := U) (U := U.calling f mk a) (Vm.Alike.refl U.vm) qO⟩, fun U hU hW => ⟨rfl, by rw [hU], by rw [hU]; exact hPc, va_K.moved hW.alike C.2.2.2.2.2.1, NW.warm hW C.2.2.2.2.2.2.1, va_AO.moved hW.alike C.2.2.2.2.2.2.2.2.2.2.2.2⟩⟩ rfl hn hl.size rfl (lv_room hw) hd ⟨Nat.le_trans hkc C.2.2.2.2.2.2.2.2.2.2.1, Nat.le_trans hks C.2.2.2.2.2.2.2.2.2.2.2.1⟩) hS (fun q _ h => hFc q h) hFc (fun u t H1 locs1 ht hvm hpost hB hz1 hk1 hS1 => ?_)
  have hj := fj (pre := ws) (w := [(q, .inr (ci, fs))]) (suf := []) (w1 := Wf u) (by rw [List.append_nil]; exact hP) (by rw [List.append_nil]; exact hD) (fun q hq => C.2.2.2.2.2.2.2.1 q (Nat.le_trans hS.1 hq)) hk1 (by rw [← ht]; exact hB.1) hB.2
  rw [List.append_nil] at hj
  exact K u hpost H1 locs1 ls hj.1 hj.2 hS1 hl
set_option maxHeartbeats 1000000 in
theorem cn_of {l : Launch} {y : MethodName} {bb : ByteArray} {mL ci : Nat} {fs vs : List Value} {Wf : (Nat → Nat) → va_W} (hy : plainFor y = true) (hyn : y.name = "<init>") (hc : ∀ h0 : Nat, (lg_sl (.ref h0 :: vs)).length ≤ mL)
    (body : ∀ (X : FX) (A : Nat → Prop) (Z : State → Prop) (h0 : Nat), X.2.1 = l → CxN X D tyl A bb mL y.cls h nc ns → X.2.2.2.2.2.2.2.2.1.name = "<init>" → (∀ (pc : Nat) (lv : List (Nat × Value)) (a : Nat → Nat), decode bb pc = .ok (.return_, 1) → a 0 = h0 → AtN X D (Wf a) A mL nc ns Z pc lv []) → AtN X D [(h0, .inr (ci, fs))] A mL 0 0 Z 0 (lv_args 0 (.ref h0 :: vs)) []) : CN l D tyl y bb mL h nc ns ci fs vs Wf := by
  intro h0 sz
  refine met_ofW (cc := bb) (maxL := mL) (ret := none) hy rfl ?_
  intro p e s m args below meth c s₁ B hml hv
  obtain ⟨rfl, hsz, hP, hK, hN, hO⟩ := hv
  subst hsz
  have hx := B.exec
  have hb := B.bytes
  have hr := B.returns
  have hts := atoms_spec (ws := .code y bb mL none :: GW) B.pre
  have hown : s.vm.findClass y.cls = some m.cls := findClass_of_methodNamed B.named
  have hmn : meth.name = "<init>" := (name_of_methodNamed B.named B.method).1.trans hyn
  have hD0 : va_D (va_A [(h0, .inr (ci, fs))] s.heap.size) [(h0, .inr (ci, fs))] := vd_iff.mpr ⟨by simp, fun q hq => va_A_iff.mpr (Or.inl (by rw [List.mem_singleton.mp hq]; simp))⟩
  generalize hAe : va_A [(h0, .inr (ci, fs))] s.heap.size = A at hD0 ⊢
  have hA : ∀ q : Nat, s.heap.size ≤ q → A q := fun q h => by rw [← hAe]; exact Or.inr h
  have hl := lv_entry (.ref h0 :: vs) (n := mL) (hc h0)
  rw [lg_entry_eq]
  generalize (lg_sl (.ref h0 :: vs) ++ List.replicate (mL - (lg_sl (.ref h0 :: vs)).length) Slot.unset).toArray = ls at hl ⊢
  refine body (p, l, e, _, s, m, _, below, meth, c) A _ h0 rfl ⟨hx, hb, hml, hown, fun w hw => hts w (List.mem_cons_of_mem _ hw), hK, hN, hA, Nat.le_refl _, Nat.le_refl _, Nat.le_refl _, Nat.le_refl _, hO⟩ hmn ?_ s.heap [] ls hP hD0 va_S.rf ⟨_, hl, fun i v hi => lookup_in _ hi⟩
  intro pc lv a hd ha H locs ls2 hP1 hD1 hS1 hl1
  exact W.vret hx hb hr (fun t ht hW => ⟨⟨a, rfl, ha, by show va_P D vwCl (Wf a) t.heap ∧ _; rw [ht]; exact ⟨hP1, hD1⟩⟩, hS1.F ht⟩) hS1.2.2 hd

end ATN
