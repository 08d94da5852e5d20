/-! THE FRAME: one memory of ints over fixed cells; a frame's state 'At'; a row for each instruction over it. -/
abbrev Mem : Type := Nat → Nat → Int32
/-- what is fixed of a world: class numbers, slots, array classes, addresses -/
abbrev GT : Type := (Nat → ClassId) × (Nat → Nat → Nat) × (Nat → ClassId) × (Nat → Nat)
abbrev ad (g : GT) (k : Nat) : Nat := g.2.2.2 k
/-- a cell: 0 int[], 1 byte[], 2 boolean[], 3 rows of references (a number n stands for the cell n, 0 for null); else an object: its class, its fields (some j: the cell j, none: an int) -/
abbrev CD : Type := Nat × Nat × List (Option Nat)
def flds (g : GT) : List (Option Nat) → (Nat → Int32) → Nat → List Value
  | [], _, _ => []
  | some j :: l, m, i => .ref (ad g j) :: flds g l m (i + 1)
  | none :: l, m, i => .int (m i) :: flds g l m (i + 1)
def cref (g : GT) (x : Int32) : Option Nat := if x = 0 then none else some (ad g x.toNatClampNeg)
def ent (g : GT) (d : CD) (m : Nat → Int32) : va_E :=
  match d.1 with
  | 0 => .inl (g.2.2.1 0, d.2.1, .inl m)
  | 1 => .inl (g.2.2.1 1, d.2.1, .inl m)
  | 2 => .inl (g.2.2.1 2, d.2.1, .inl m)
  | 3 => .inl (g.2.2.1 3, d.2.1, .inr (.inr (.inr (.inr (fun i => cref g (m i))))))
  | _ => .inr (d.2.1, flds g d.2.2 m 0)
abbrev tys (g : GT) : List (ClassId × FieldType) := [(g.2.2.1 0, .int), (g.2.2.1 1, .byte), (g.2.2.1 2, .boolean), (g.2.2.1 3, .object RX1)]
def wl (g : GT) (lay : List CD) (M : Mem) : va_W := lay.mapIdx (fun k d => (ad g k, ent g d (M k)))
theorem wl_get {g : GT} {lay : List CD} {M : Mem} {k : Nat} {d : CD} (h : lay[k]? = some d) : (wl g lay M)[k]? = some (ad g k, ent g d (M k)) := by
  unfold wl
  rw [List.getElem?_mapIdx, h]
  rfl
theorem wl_some {g : GT} {lay : List CD} {M : Mem} {k : Nat} {q : Nat × va_E} (h : (wl g lay M)[k]? = some q) : ∃ d, lay[k]? = some d ∧ q = (ad g k, ent g d (M k)) := by
  unfold wl at h
  rw [List.getElem?_mapIdx] at h
  cases hd : lay[k]? with
  | none => rw [hd] at h; cases h
  | some d => rw [hd] at h; exact ⟨d, rfl, (Option.some.inj h).symm⟩
def ms (M : Mem) (k i : Nat) (v : Int32) : Mem := fun a b => if a = k then (if b = i then v else M a b) else M a b
theorem ms_row (M : Mem) (k i : Nat) (v : Int32) : ms M k i v k = upd (M k) i v := by
  funext b
  simp [ms, upd]
theorem ms_off (M : Mem) {k : Nat} (i : Nat) (v : Int32) {a : Nat} (h : a ≠ k) : ms M k i v a = M a := by
  funext b
  simp [ms, h]
theorem wl_set {g : GT} {lay : List CD} {M : Mem} {k i : Nat} {v : Int32} {d : CD} (h : lay[k]? = some d) : (wl g lay M).set k (ad g k, ent g d (upd (M k) i v)) = wl g lay (ms M k i v) := by
  apply List.ext_getElem?
  intro j
  rw [List.getElem?_set]
  by_cases hj : k = j
  · subst hj
    have hlt : k < (wl g lay M).length := (List.getElem?_eq_some_iff.mp (wl_get (g := g) (M := M) h)).1
    simp only [if_true, hlt]
    rw [wl_get h, ms_row]
  · simp only [if_neg hj]
    unfold wl
    rw [List.getElem?_mapIdx, List.getElem?_mapIdx, ms_off M i v (fun e => hj e.symm)]
theorem flds_int {g : GT} {m : Nat → Int32} : ∀ (l : List (Option Nat)) (i k : Nat), l[k]? = some none → (flds g l m i)[k]? = some (.int (m (i + k)))
  | [], i, k, h => by simp at h
  | none :: l, i, 0, h => by simp [flds]
  | some j :: l, i, 0, h => by simp at h
  | none :: l, i, k + 1, h => by
    have h1 := flds_int (g := g) (m := m) l (i + 1) k (by simpa using h)
    simp only [flds, List.getElem?_cons_succ]
    rw [h1, Nat.add_right_comm, Nat.add_assoc]
  | some j :: l, i, k + 1, h => by
    have h1 := flds_int (g := g) (m := m) l (i + 1) k (by simpa using h)
    simp only [flds, List.getElem?_cons_succ]
    rw [h1, Nat.add_right_comm, Nat.add_assoc]
theorem flds_ref {g : GT} {m : Nat → Int32} {j : Nat} : ∀ (l : List (Option Nat)) (i k : Nat), l[k]? = some (some j) → (flds g l m i)[k]? = some (.ref (ad g j))
  | [], i, k, h => by simp at h
  | none :: l, i, 0, h => by simp at h
  | some j2 :: l, i, 0, h => by simp at h; subst h; simp [flds]
  | none :: l, i, k + 1, h => by
    have h1 := flds_ref (g := g) (m := m) (j := j) l (i + 1) k (by simpa using h)
    simp only [flds, List.getElem?_cons_succ]
    exact h1
  | some j2 :: l, i, k + 1, h => by
    have h1 := flds_ref (g := g) (m := m) (j := j) l (i + 1) k (by simpa using h)
    simp only [flds, List.getElem?_cons_succ]
    exact h1
theorem flds_len {g : GT} {m : Nat → Int32} : ∀ (l : List (Option Nat)) (i : Nat), (flds g l m i).length = l.length
  | [], i => rfl
  | none :: l, i => by simp [flds, flds_len l (i + 1)]
  | some j :: l, i => by simp [flds, flds_len l (i + 1)]
theorem flds_off {g : GT} {m : Nat → Int32} {x : Int32} : ∀ (l : List (Option Nat)) (i k : Nat), k < i → flds g l (upd m k x) i = flds g l m i
  | [], i, k, h => rfl
  | none :: l, i, k, h => by
    have e : upd m k x i = m i := by simp [upd]; omega
    simp only [flds]
    rw [flds_off l (i + 1) k (by omega), e]
  | some j :: l, i, k, h => by
    simp only [flds]
    rw [flds_off l (i + 1) k (by omega)]
theorem flds_set {g : GT} {m : Nat → Int32} {x : Int32} : ∀ (l : List (Option Nat)) (i k : Nat), l[k]? = some none → (flds g l m i).set k (.int x) = flds g l (upd m (i + k) x) i
  | [], i, k, h => by simp at h
  | none :: l, i, 0, h => by
    have e : upd m i x i = x := by simp [upd]
    simp only [flds, List.set_cons_zero, Nat.add_zero]
    rw [flds_off l (i + 1) i (by omega), e]
  | some j :: l, i, 0, h => by simp at h
  | none :: l, i, k + 1, h => by
    have h1 := flds_set (g := g) (m := m) (x := x) l (i + 1) k (by simpa using h)
    have e : upd m (i + (k + 1)) x i = m i := by simp [upd]
    simp only [flds, List.set_cons_succ]
    rw [h1, e, show i + 1 + k = i + (k + 1) by omega]
  | some j :: l, i, k + 1, h => by
    have h1 := flds_set (g := g) (m := m) (x := x) l (i + 1) k (by simpa using h)
    simp only [flds, List.set_cons_succ]
    rw [h1, show i + 1 + k = i + (k + 1) by omega]
/-- the addresses of a world -/
def AdOK (g : GT) (n : Nat) (A : Nat → Prop) : Prop := (∀ i j, i < n → j < n → ad g i = ad g j → i = j) ∧ ∀ k, k < n → A (ad g k)
theorem AdOK.D {g : GT} {lay : List CD} {A : Nat → Prop} (h : AdOK g lay.length A) (M : Mem) : va_D A (wl g lay M) := by
  refine ⟨fun i j p q hp hq e => ?_, fun k q hq => ?_⟩
  · obtain ⟨d, h1, rfl⟩ := wl_some hp
    obtain ⟨d2, h2, rfl⟩ := wl_some hq
    exact h.1 i j (List.getElem?_eq_some_iff.mp h1).1 (List.getElem?_eq_some_iff.mp h2).1 e
  · obtain ⟨d, h1, rfl⟩ := wl_some hq
    exact h.2 k (List.getElem?_eq_some_iff.mp h1).1
theorem AdOK.of {g : GT} {lay : List CD} {A B : Nat → Prop} {M : Mem} (h : va_D A (wl g lay M)) (hB : ∀ k, k < lay.length → B (ad g k)) : AdOK g lay.length B := by
  refine ⟨fun i j hi hj e => ?_, hB⟩
  exact h.1 i j _ _ (wl_get (M := M) (List.getElem?_eq_getElem hi)) (wl_get (M := M) (List.getElem?_eq_getElem hj)) e
/-- words of a call into the nest, carried from state to state -/
def NWs : List Cond := lw_tbl.filter (fun w => match w with | .methodLinkNest .. => true | .castable .. => true | .declares .. => true | _ => false)
def NW (U : State) : Prop := ∀ w ∈ NWs, va_Nw w U
theorem NW.warm {s U : State} (hW : s.WarmedH U.vm) (h : NW s) : NW U := by
  intro w hw
  have h1 := h w hw
  obtain ⟨-, h2⟩ := List.mem_filter.mp hw
  cases w <;> first | (simp at h2; done) | exact va_Nw.warmM hW h1 | exact va_Nw.warmD hW h1 | exact va_tabs rfl (rfl : (s.setVm U.vm).vm = U.vm) (by rw [Cond.castable_setVm hW.alike]; exact h1)
theorem NW.same {s U : State} (hW : s.vm = U.vm) (h : NW s) : NW U := by
  intro w hw
  have h1 := h w hw
  obtain ⟨-, h2⟩ := List.mem_filter.mp hw
  cases w <;> first | (simp at h2; done) | exact va_Nw.same rfl hW h1
/-- the locals that are known -/
def lvk (ls : Array Slot) (nL : Nat) (lv : List (Nat × Value)) : Prop := ∃ l, lv_has ls nL l ∧ ∀ i v, lv.lookup i = some v → (i, v) ∈ l
theorem lvk.get {ls : Array Slot} {nL : Nat} {lv : List (Nat × Value)} (h : lvk ls nL lv) {i : Nat} {v : Value} (hi : lv.lookup i = some v) : ls[i]? = some (.val v) := by
  obtain ⟨l, h1, h2⟩ := h
  exact h1.2.2 _ (h2 i v hi)
theorem lvk.size {ls : Array Slot} {nL : Nat} {lv : List (Nat × Value)} (h : lvk ls nL lv) : ls.size = nL := by
  obtain ⟨l, h1, h2⟩ := h
  exact h1.1
theorem lvk.sub {ls : Array Slot} {nL : Nat} {lv lv' : List (Nat × Value)} (h : lvk ls nL lv) (hs : lv'.map (fun q => lv.lookup q.1) = lv'.map (fun q => some q.2)) : lvk ls nL lv' := by
  obtain ⟨l, h1, h2⟩ := h
  refine ⟨l, h1, fun i v hv => ?_⟩
  have h3 : ∀ (l2 : List (Nat × Value)), l2.map (fun q => lv.lookup q.1) = l2.map (fun q => some q.2) → l2.lookup i = some v → lv.lookup i = some v := by
    intro l2
    induction l2 with
    | nil => intro _ h; simp at h
    | cons q l2 ih =>
      intro he hl
      obtain ⟨qi, qv⟩ := q
      simp only [List.map_cons, List.cons.injEq] at he
      rw [List.lookup_cons] at hl
      by_cases hq : i == qi
      · rw [hq] at hl
        have e1 : i = qi := by simpa using hq
        subst e1
        have e2 : qv = v := Option.some.inj hl
        rw [← e2]
        exact he.1
      · rw [Bool.not_eq_true] at hq
        rw [hq] at hl
        exact ih he.2 hl
  exact h2 i v (h3 lv' hs hv)
theorem lookup_in {i : Nat} {v : Value} : ∀ (l : List (Nat × Value)), l.lookup i = some v → (i, v) ∈ l
  | [], h => by simp at h
  | (qi, qv) :: l, h => by
    rw [List.lookup_cons] at h
    by_cases hq : i == qi
    · rw [hq] at h
      have e1 : i = qi := by simpa using hq
      have e2 : qv = v := Option.some.inj h
      subst e1; subst e2
      exact List.mem_cons_self
    · rw [Bool.not_eq_true] at hq
      rw [hq] at h
      exact List.mem_cons_of_mem _ (lookup_in l h)
theorem lvk.filt {l lv : List (Nat × Value)} {i : Nat} {x : Value} (hz : lv.all (fun q => !(q.1 + 1 == i) || q.2.category == 1) = true) (h2 : ∀ i v, lv.lookup i = some v → (i, v) ∈ l) :
    ∀ j v, ((i, x) :: lv).lookup j = some v → (j, v) ∈ ((i, x) :: l.filter (fun q => !(q.1 == i) && !(q.1 + 1 == i && q.2.category == 2))) := by
  intro j v hv
  rw [List.lookup_cons] at hv
  by_cases hq : j == i
  · rw [hq] at hv
    have e1 : j = i := by simpa using hq
    have e2 : x = v := Option.some.inj hv
    subst e1; subst e2
    exact List.mem_cons_self
  · rw [Bool.not_eq_true] at hq
    rw [hq] at hv
    have h3 := h2 j v hv
    have h4 := List.all_eq_true.mp hz _ (lookup_in lv hv)
    refine List.mem_cons_of_mem _ (List.mem_filter.mpr ⟨h3, ?_⟩)
    simp only [Bool.or_eq_true, Bool.not_eq_true'] at h4
    rcases h4 with h4 | h4
    · simp [hq, h4]
    · have h5 : v.category = 1 := by simpa using h4
      simp [hq, h5]
theorem lvk.filt2 {l lv : List (Nat × Value)} {i : Nat} {x : Value} (hz : lv.all (fun q => !(q.1 == i + 1) && (!(q.1 + 1 == i) || q.2.category == 1)) = true) (h2 : ∀ i v, lv.lookup i = some v → (i, v) ∈ l) :
    ∀ j v, ((i, x) :: lv).lookup j = some v → (j, v) ∈ ((i, x) :: l.filter (fun q => !(q.1 == i) && (!(q.1 == i + 1) && !(q.1 + 1 == i && q.2.category == 2)))) := by
  intro j v hv
  rw [List.lookup_cons] at hv
  by_cases hq : j == i
  · rw [hq] at hv
    have e1 : j = i := by simpa using hq
    have e2 : x = v := Option.some.inj hv
    subst e1; subst e2
    exact List.mem_cons_self
  · rw [Bool.not_eq_true] at hq
    rw [hq] at hv
    have h3 := h2 j v hv
    have h4 := List.all_eq_true.mp hz _ (lookup_in lv hv)
    refine List.mem_cons_of_mem _ (List.mem_filter.mpr ⟨h3, ?_⟩)
    simp only [Bool.and_eq_true, Bool.or_eq_true, Bool.not_eq_true'] at h4
    obtain ⟨h6, h4⟩ := h4
    rcases h4 with h4 | h4
    · simp [hq, h4, h6]
    · have h5 : v.category = 1 := by simpa using h4
      simp [hq, h5, h6]
/-- one frame: program, launch, env, room, start, method, args, below, method's row, code -/
abbrev FX : Type := Program × Launch × Env × Room × State × MethodId × Array Value × List Frame × Method × Code
abbrev xs (X : FX) : State := X.2.2.2.2.1
abbrev xW (X : FX) (H : Heap) (locs : List Loc) (kc ks : Nat) (Z : State → Prop) (g : JFrame) : Prop := W X.1 X.2.1 X.2.2.1 X.2.2.2.1 (xs X) X.2.2.2.2.2.1 X.2.2.2.2.2.2.1 X.2.2.2.2.2.2.2.1 X.2.2.2.2.2.2.2.2.1 X.2.2.2.2.2.2.2.2.2 H locs kc ks Z g
abbrev xF (X : FX) (pc : Nat) (ls : Array Slot) (st : List Value) : JFrame := F0 X.2.2.2.2.2.1 pc ls st
abbrev wP (g : GT) (lay : List CD) (M : Mem) (H : Heap) : Prop := va_P (g.1, g.2.1) vwCl (wl g lay M) H
/-- what holds in a frame from its entry on -/
def Cx (X : FX) (g : GT) (lay : List CD) (A : Nat → Prop) (b : ByteArray) (nL : Nat) (own : String) (h : Nat) : Prop :=
  X.1.tables.exec = Jvm.exec ∧ X.2.2.2.2.2.2.2.2.2.code = b ∧ X.2.2.2.2.2.2.2.2.2.maxLocals = nL ∧ (xs X).vm.findClass own = some X.2.2.2.2.2.1.cls ∧ (∀ w ∈ GW, w.before X.2.2.2.2.2.2.1 (xs X) = true) ∧
  va_K (g.1, g.2.1) vwCl (tys g) (xs X) ∧ NW (xs X) ∧ AdOK g lay.length A ∧ (∀ q, (xs X).heap.size ≤ q → A q) ∧ h ≤ X.2.2.2.1.frames ∧ 64 * h ≤ X.2.2.2.1.locals
/-- the machine, in this frame at pc with these locals, this stack, this memory, comes to Z -/
def AtX (X : FX) (g : GT) (lay : List CD) (A : Nat → Prop) (nL kc ks : Nat) (Z : State → Prop) (pc : Nat) (lv : List (Nat × Value)) (st : List Value) (M : Mem) : Prop :=
  ∀ (H : Heap) (locs : List Loc) (ls : Array Slot), wP g lay M H → va_S A (xs X).heap H locs → lvk ls nL lv → xW X H locs kc ks Z (xF X pc ls st)
/-- the table of a method's instructions -/
def tabOK (b : ByteArray) (tab : List (Nat × Instr × Nat)) : Bool := tab.all (fun q => decide (decode b q.1 = .ok q.2))
theorem tk {b : ByteArray} {tab : List (Nat × Instr × Nat)} (h : tabOK b tab = true) (i : Nat) {pc len : Nat} {ins : Instr} (hi : tab[i]? = some (pc, ins, len)) : decode b pc = .ok (ins, len) := by
  have h1 := List.all_eq_true.mp h _ (List.mem_of_getElem? hi)
  simpa using h1
