/-! THE GRAMMAR OF CLAIMS over signs: kd b the sign that begins at b (its kind, and 32 times its value), nx b where the next one begins; an answer: is it right, where it ends (or where it is wrong), the steps -/
abbrev PRs : Type := Bool × Nat × List Nat
def pFail (b : Nat) : PRs := (false, b, [])
section PARSE
variable (kd nx : Nat → Nat)
def pPart (b : Nat) : PRs := if kd b % 32 ≤ 5 then (true, nx b, [kd b]) else pFail b
def pLoop (op : Nat) (item : Nat → PRs) : Nat → Nat → List Nat → PRs
  | 0, b, c => (true, b, c)
  | n + 1, b, c => if kd b = op then (if (item (nx b)).1 then pLoop op item n (item (nx b)).2.1 (c ++ (item (nx b)).2.2 ++ [op]) else pFail (item (nx b)).2.1) else (true, b, c)
def pMany (op : Nat) (item : Nat → PRs) (b : Nat) : PRs := if (item b).1 then pLoop kd nx op item 400 (item b).2.1 (item b).2.2 else pFail (item b).2.1
def pSum (b : Nat) : PRs := pMany kd nx 9 (pPart kd nx) b
def pElem (st b : Nat) : PRs := if kd b % 32 = 0 ∧ kd b / 32 < 6 then (true, nx b, [st + 32 * (kd b / 32)]) else pFail b
def pCmp2 (op b : Nat) (c : List Nat) : PRs := if (pSum kd nx b).1 then (true, (pSum kd nx b).2.1, c ++ (pSum kd nx b).2.2 ++ [op]) else pFail (pSum kd nx b).2.1
def pCmp1 (b : Nat) (c : List Nat) : PRs := if kd b = 10 then pCmp2 kd nx 10 (nx b) c else if kd b = 11 then pCmp2 kd nx 11 (nx b) c else pFail b
def pCmp (b : Nat) : PRs := if (pSum kd nx b).1 then pCmp1 kd nx (pSum kd nx b).2.1 (pSum kd nx b).2.2 else pFail (pSum kd nx b).2.1
def pClose (r : PRs) : PRs := if r.1 then (if kd r.2.1 = 15 then (true, nx r.2.1, r.2.2) else pFail r.2.1) else pFail r.2.1
def pNot (r : PRs) : PRs := if r.1 then (true, r.2.1, r.2.2 ++ [8]) else pFail r.2.1
def pAtomS (can : Bool) (any atom : Nat → PRs) (b : Nat) : PRs :=
  if can = true ∧ kd b = 14 then pClose kd nx (any (nx b)) else if can = true ∧ kd b = 8 then pNot (atom (nx b)) else
  if kd b = 6 then pElem kd nx 6 (nx b) else if kd b = 7 then pElem kd nx 7 (nx b) else pCmp kd nx b
def pAtom : Nat → Nat → PRs
  | 0 => pAtomS kd nx false pFail pFail
  | n + 1 => pAtomS kd nx true (pMany kd nx 13 (pMany kd nx 12 (pAtom n))) (pAtom n)
def pAll (n : Nat) : Nat → PRs := pMany kd nx 12 (pAtom kd nx n)
def pAny (n : Nat) : Nat → PRs := pMany kd nx 13 (pAll kd nx n)
def pWhole (b : Nat) : PRs := if (pAny kd nx 6 b).1 then (if kd (pAny kd nx 6 b).2.1 = 17 then pAny kd nx 6 b else pFail (pAny kd nx 6 b).2.1) else pFail (pAny kd nx 6 b).2.1
end PARSE
/-- the signs of a text of L bytes -/
def TS (L : Nat) (kd nx : Nat → Nat) : Prop := L ≤ 400 ∧ (∀ b, kd b < 18 ∨ (kd b % 32 = 0 ∧ kd b / 32 ≤ 9999)) ∧ (∀ b, b ≤ L → (kd b = 17 ↔ b = L)) ∧ ∀ b, b < L → b < nx b ∧ nx b ≤ L
theorem TS.next {L : Nat} {kd nx : Nat → Nat} (h : TS L kd nx) {b : Nat} (hb : b ≤ L) (hk : kd b % 32 ≠ 17) : b < L ∧ b < nx b ∧ nx b ≤ L := by
  have h1 : b ≠ L := fun e => hk (by rw [(h.2.2.1 b hb).mpr e])
  have h2 := h.2.2.2 b (by omega)
  exact ⟨by omega, h2.1, h2.2⟩
/-- a reader goes on, and emits no more than it reads -/
def Good (L : Nat) (item : Nat → PRs) : Prop := ∀ b, b ≤ L → ((item b).1 = true → b < (item b).2.1 ∧ (item b).2.1 ≤ L ∧ (item b).2.2.length + b ≤ (item b).2.1) ∧ ((item b).1 = false → b ≤ (item b).2.1 ∧ (item b).2.1 ≤ L)
section GOOD
variable {L : Nat} {kd nx : Nat → Nat}
theorem good_fail {b c : Nat} (h1 : b ≤ c) (h2 : c ≤ L) : ((pFail c).1 = true → b < (pFail c).2.1 ∧ (pFail c).2.1 ≤ L ∧ (pFail c).2.2.length + b ≤ (pFail c).2.1) ∧ ((pFail c).1 = false → b ≤ (pFail c).2.1 ∧ (pFail c).2.1 ≤ L) := ⟨fun h => (by cases h), fun _ => ⟨h1, h2⟩⟩
theorem good_part (h : TS L kd nx) : Good L (pPart kd nx) := by
  intro b hb
  unfold pPart
  split
  · rename_i c
    have h1 := h.next hb (by omega)
    exact ⟨fun _ => ⟨h1.2.1, h1.2.2, by simp only [List.length_singleton]; omega⟩, fun e => by cases e⟩
  · exact good_fail (Nat.le_refl _) hb
theorem good_loop (h : TS L kd nx) {op : Nat} {item : Nat → PRs} (ho : op % 32 ≠ 17) (hi : Good L item) : ∀ (n b b0 : Nat) (c : List Nat), b0 < b → b ≤ L → c.length + b0 ≤ b → ((pLoop kd nx op item n b c).1 = true → b0 < (pLoop kd nx op item n b c).2.1 ∧ (pLoop kd nx op item n b c).2.1 ≤ L ∧ (pLoop kd nx op item n b c).2.2.length + b0 ≤ (pLoop kd nx op item n b c).2.1) ∧ ((pLoop kd nx op item n b c).1 = false → b0 ≤ (pLoop kd nx op item n b c).2.1 ∧ (pLoop kd nx op item n b c).2.1 ≤ L)
  | 0, b, b0, c, h0, h1, h2 => ⟨fun _ => ⟨h0, h1, h2⟩, fun e => by cases e⟩
  | n + 1, b, b0, c, h0, h1, h2 => by
    unfold pLoop
    split
    · rename_i hk
      have h3 := h.next h1 (by rw [hk]; exact ho)
      have h4 := hi (nx b) h3.2.2
      split
      · rename_i hc
        have h5 := h4.1 hc
        exact good_loop h ho hi n _ b0 _ (by omega) h5.2.1 (by simp only [List.length_append, List.length_singleton]; omega)
      · rename_i hc
        have h5 := h4.2 (by simpa using hc)
        exact good_fail (by omega) h5.2
    · exact ⟨fun _ => ⟨h0, h1, h2⟩, fun e => by cases e⟩
theorem good_many (h : TS L kd nx) {op : Nat} {item : Nat → PRs} (ho : op % 32 ≠ 17) (hi : Good L item) : Good L (pMany kd nx op item) := by
  intro b hb
  unfold pMany
  have h4 := hi b hb
  split
  · rename_i hc
    have h5 := h4.1 hc
    exact good_loop h ho hi 400 _ b _ h5.1 h5.2.1 h5.2.2
  · rename_i hc
    have h5 := h4.2 (by simpa using hc)
    exact good_fail h5.1 h5.2
theorem good_sum (h : TS L kd nx) : Good L (pSum kd nx) := good_many h (by decide) (good_part h)
theorem good_elem (h : TS L kd nx) {st b0 b : Nat} (h0 : b0 < b) (hb : b ≤ L) : ((pElem kd nx st b).1 = true → b0 < (pElem kd nx st b).2.1 ∧ (pElem kd nx st b).2.1 ≤ L ∧ (pElem kd nx st b).2.2.length + b0 ≤ (pElem kd nx st b).2.1) ∧ ((pElem kd nx st b).1 = false → b0 ≤ (pElem kd nx st b).2.1 ∧ (pElem kd nx st b).2.1 ≤ L) := by
  unfold pElem
  split
  · rename_i c
    have h1 := h.next hb (by omega)
    exact ⟨fun _ => ⟨by simp only []; omega, h1.2.2, by simp only [List.length_singleton]; omega⟩, fun e => by cases e⟩
  · exact good_fail (by omega) hb
theorem good_cmp2 (h : TS L kd nx) {op b0 b : Nat} {c : List Nat} (h0 : b0 < b) (hb : b ≤ L) (hc : c.length + b0 + 1 ≤ b) : ((pCmp2 kd nx op b c).1 = true → b0 < (pCmp2 kd nx op b c).2.1 ∧ (pCmp2 kd nx op b c).2.1 ≤ L ∧ (pCmp2 kd nx op b c).2.2.length + b0 ≤ (pCmp2 kd nx op b c).2.1) ∧ ((pCmp2 kd nx op b c).1 = false → b0 ≤ (pCmp2 kd nx op b c).2.1 ∧ (pCmp2 kd nx op b c).2.1 ≤ L) := by
  unfold pCmp2
  have h4 := good_sum h b hb
  split
  · rename_i hc
    have h5 := h4.1 hc
    exact ⟨fun _ => ⟨by simp only []; omega, h5.2.1, by simp only [List.length_append, List.length_singleton]; omega⟩, fun e => by cases e⟩
  · rename_i hc
    have h5 := h4.2 (by simpa using hc)
    exact good_fail (by omega) h5.2
theorem good_cmp1 (h : TS L kd nx) {b0 b : Nat} {c : List Nat} (h0 : b0 < b) (hb : b ≤ L) (hc : c.length + b0 ≤ b) : ((pCmp1 kd nx b c).1 = true → b0 < (pCmp1 kd nx b c).2.1 ∧ (pCmp1 kd nx b c).2.1 ≤ L ∧ (pCmp1 kd nx b c).2.2.length + b0 ≤ (pCmp1 kd nx b c).2.1) ∧ ((pCmp1 kd nx b c).1 = false → b0 ≤ (pCmp1 kd nx b c).2.1 ∧ (pCmp1 kd nx b c).2.1 ≤ L) := by
  unfold pCmp1
  split
  · rename_i hk
    have h3 := h.next hb (by rw [hk]; decide)
    exact good_cmp2 h (by omega) h3.2.2 (by omega)
  · split
    · rename_i hk
      have h3 := h.next hb (by rw [hk]; decide)
      exact good_cmp2 h (by omega) h3.2.2 (by omega)
    · exact good_fail (by omega) hb
theorem good_cmp (h : TS L kd nx) : Good L (pCmp kd nx) := by
  intro b hb
  unfold pCmp
  have h4 := good_sum h b hb
  split
  · rename_i hc
    have h5 := h4.1 hc
    exact good_cmp1 h h5.1 h5.2.1 h5.2.2
  · rename_i hc
    have h5 := h4.2 (by simpa using hc)
    exact good_fail h5.1 h5.2
theorem good_atomS (h : TS L kd nx) {can : Bool} {any atom : Nat → PRs} (h1 : can = true → Good L any ∧ Good L atom) : Good L (pAtomS kd nx can any atom) := by
  intro b hb
  unfold pAtomS
  split
  · rename_i hk
    have h3 := h.next hb (by rw [hk.2]; decide)
    have h4 := (h1 hk.1).1 (nx b) h3.2.2
    unfold pClose
    split
    · rename_i hc
      have h5 := h4.1 hc
      split
      · rename_i hk2
        have h6 := h.next h5.2.1 (by rw [hk2]; decide)
        exact ⟨fun _ => ⟨by simp only []; omega, h6.2.2, by simp only []; omega⟩, fun e => by cases e⟩
      · exact good_fail (by omega) h5.2.1
    · rename_i hc
      have h5 := h4.2 (by simpa using hc)
      exact good_fail (by omega) h5.2
  · split
    · rename_i hk
      have h3 := h.next hb (by rw [hk.2]; decide)
      have h4 := (h1 hk.1).2 (nx b) h3.2.2
      unfold pNot
      split
      · rename_i hc
        have h5 := h4.1 hc
        exact ⟨fun _ => ⟨by simp only []; omega, h5.2.1, by simp only [List.length_append, List.length_singleton]; omega⟩, fun e => by cases e⟩
      · rename_i hc
        have h5 := h4.2 (by simpa using hc)
        exact good_fail (by omega) h5.2
    · split
      · rename_i hk
        have h3 := h.next hb (by rw [hk]; decide)
        exact good_elem h h3.2.1 h3.2.2
      · split
        · rename_i hk
          have h3 := h.next hb (by rw [hk]; decide)
          exact good_elem h h3.2.1 h3.2.2
        · exact good_cmp h b hb
theorem good_atom (h : TS L kd nx) : ∀ n, Good L (pAtom kd nx n)
  | 0 => good_atomS h (fun e => by cases e)
  | n + 1 => good_atomS h (fun _ => ⟨good_many h (by decide) (good_many h (by decide) (good_atom h n)), good_atom h n⟩)
theorem good_all (h : TS L kd nx) (n : Nat) : Good L (pAll kd nx n) := good_many h (by decide) (good_atom h n)
theorem good_any (h : TS L kd nx) (n : Nat) : Good L (pAny kd nx n) := good_many h (by decide) (good_all h n)
end GOOD
/-! steps have types: a pile of numbers (false) and truths (true) -/
def tyS (c : Nat) (st : List Bool) : Option (List Bool) :=
  if c % 32 < 6 then (if st.length < 32 then some (false :: st) else none) else if c % 32 < 8 then (if st.length < 32 then some (true :: st) else none) else
  match st with
  | [] => none
  | x :: r => if c % 32 = 8 then (if x then some (true :: r) else none) else
    match r with
    | [] => none
    | y :: q => if c % 32 < 12 then (if x || y then none else some (decide (c % 32 ≠ 9) :: q)) else (if x && y && decide (c % 32 < 14) then some (true :: q) else none)
def tyR : List Nat → List Bool → Option (List Bool)
  | [], st => some st
  | c :: cs, st => match tyS c st with
    | none => none
    | some s2 => tyR cs s2
theorem tyR_append : ∀ (a b : List Nat) (st s2 : List Bool), tyR a st = some s2 → tyR (a ++ b) st = tyR b s2
  | [], b, st, s2, h => by have : st = s2 := Option.some.inj h; rw [this]; rfl
  | c :: cs, b, st, s2, h => by
    simp only [List.cons_append, tyR] at h ⊢
    cases hc : tyS c st with
    | none => rw [hc] at h; cases h
    | some s3 => rw [hc] at h; exact tyR_append cs b s3 s2 h
/-- what a reader emits puts one of type t on the pile, with room for k -/
def Ty (t : Bool) (k : Nat) (item : Nat → PRs) : Prop := ∀ b st, (item b).1 = true → st.length + k ≤ 32 → tyR (item b).2.2 st = some (t :: st)
section TYPED
variable {kd nx : Nat → Nat}
theorem ty_part : Ty false 1 (pPart kd nx) := by
  intro b st h hk
  unfold pPart at h ⊢
  split at h
  · rename_i c
    rw [if_pos c]
    simp only [tyR, tyS]
    rw [if_pos (by omega), if_pos (by omega)]
  · cases h
theorem ty_bin {t : Bool} {op : Nat} {c d : List Nat} {st : List Bool} (h1 : tyR c st = some (t :: st)) (h2 : tyR d (t :: st) = some (t :: t :: st)) (ho : (t = false ∧ op = 9) ∨ (t = true ∧ (op = 12 ∨ op = 13))) : tyR (c ++ d ++ [op]) st = some (t :: st) := by
  rw [tyR_append _ _ _ _ (by rw [tyR_append _ _ _ _ h1]; exact h2)]
  rcases ho with ⟨rfl, rfl⟩ | ⟨rfl, rfl | rfl⟩ <;> rfl
theorem ty_loop {t : Bool} {op k : Nat} {item : Nat → PRs} (hi : Ty t k item) (ho : (t = false ∧ op = 9) ∨ (t = true ∧ (op = 12 ∨ op = 13))) : ∀ (n b : Nat) (c : List Nat) (st : List Bool), (pLoop kd nx op item n b c).1 = true → st.length + (k + 1) ≤ 32 → tyR c st = some (t :: st) → tyR (pLoop kd nx op item n b c).2.2 st = some (t :: st)
  | 0, b, c, st, _, _, hc => hc
  | n + 1, b, c, st, h, hk, hc => by
    unfold pLoop at h ⊢
    split at h
    · rename_i e1
      rw [if_pos e1]
      split at h
      · rename_i e2
        rw [if_pos e2]
        exact ty_loop hi ho n _ _ st h hk (ty_bin hc (hi _ _ e2 (by simp only [List.length_cons]; omega)) ho)
      · cases h
    · rename_i e1
      rw [if_neg e1]; exact hc
theorem ty_many {t : Bool} {op k : Nat} {item : Nat → PRs} (hi : Ty t k item) (ho : (t = false ∧ op = 9) ∨ (t = true ∧ (op = 12 ∨ op = 13))) : Ty t (k + 1) (pMany kd nx op item) := by
  intro b st h hk
  unfold pMany at h ⊢
  split at h
  · rename_i e1
    rw [if_pos e1]
    exact ty_loop hi ho 400 _ _ st h hk (hi b st e1 (by omega))
  · cases h
theorem ty_sum : Ty false 2 (pSum kd nx) := ty_many ty_part (Or.inl ⟨rfl, rfl⟩)
theorem ty_elem {st0 : Nat} (h0 : st0 = 6 ∨ st0 = 7) : Ty true 1 (pElem kd nx st0) := by
  intro b st h hk
  unfold pElem at h ⊢
  split at h
  · rename_i c
    rw [if_pos c]
    have e : (st0 + 32 * (kd b / 32)) % 32 = st0 := by omega
    simp only [tyR, tyS, e]
    rw [if_neg (by omega), if_pos (by omega), if_pos (by omega)]
  · cases h
theorem ty_cmp2 {op b : Nat} {c : List Nat} {st : List Bool} (h : (pCmp2 kd nx op b c).1 = true) (hk : st.length + 3 ≤ 32) (hc : tyR c st = some (false :: st)) (ho : op = 10 ∨ op = 11) : tyR (pCmp2 kd nx op b c).2.2 st = some (true :: st) := by
  unfold pCmp2 at h ⊢
  split at h
  · rename_i e1
    rw [if_pos e1]
    have h2 := ty_sum (kd := kd) (nx := nx) b (false :: st) e1 (by simp only [List.length_cons]; omega)
    show tyR (c ++ (pSum kd nx b).2.2 ++ [op]) st = _
    rw [tyR_append _ _ _ _ (by rw [tyR_append _ _ _ _ hc]; exact h2)]
    rcases ho with rfl | rfl <;> rfl
  · cases h
theorem ty_cmp : Ty true 3 (pCmp kd nx) := by
  intro b st h hk
  unfold pCmp at h ⊢
  split at h
  · rename_i e1
    rw [if_pos e1]
    have h1 := ty_sum (kd := kd) (nx := nx) b st e1 (by omega)
    unfold pCmp1 at h ⊢
    split at h
    · rename_i e2
      rw [if_pos e2]
      exact ty_cmp2 h hk h1 (Or.inl rfl)
    · rename_i e2
      rw [if_neg e2]
      split at h
      · rename_i e3
        rw [if_pos e3]
        exact ty_cmp2 h hk h1 (Or.inr rfl)
      · cases h
  · cases h
theorem ty_atomS {can : Bool} {any atom : Nat → PRs} {k : Nat} (hk3 : 3 ≤ k) (h1 : can = true → Ty true k any ∧ Ty true k atom) : Ty true k (pAtomS kd nx can any atom) := by
  intro b st h hk
  unfold pAtomS at h ⊢
  split at h
  · rename_i e1
    rw [if_pos e1]
    unfold pClose at h ⊢
    split at h
    · rename_i e2
      rw [if_pos e2]
      split at h
      · rename_i e3
        rw [if_pos e3]
        exact (h1 e1.1).1 _ st e2 hk
      · cases h
    · cases h
  · rename_i e1
    rw [if_neg e1]
    split at h
    · rename_i e2
      rw [if_pos e2]
      unfold pNot at h ⊢
      split at h
      · rename_i e3
        rw [if_pos e3]
        show tyR ((atom (nx b)).2.2 ++ [8]) st = _
        rw [tyR_append _ _ _ _ ((h1 e2.1).2 _ st e3 hk)]
        rfl
      · cases h
    · rename_i e2
      rw [if_neg e2]
      split at h
      · rename_i e3
        rw [if_pos e3]
        exact ty_elem (Or.inl rfl) _ st h (by omega)
      · rename_i e3
        rw [if_neg e3]
        split at h
        · rename_i e4
          rw [if_pos e4]
          exact ty_elem (Or.inr rfl) _ st h (by omega)
        · rename_i e4
          rw [if_neg e4]
          exact ty_cmp _ st h (by omega)
theorem Ty.mono {t : Bool} {k k2 : Nat} {item : Nat → PRs} (h : Ty t k item) (hk : k ≤ k2) : Ty t k2 item := fun b st h1 h2 => h b st h1 (by omega)
theorem ty_atom : ∀ n, Ty true (3 + 2 * n) (pAtom kd nx n)
  | 0 => ty_atomS (by omega) (fun e => by cases e)
  | n + 1 => ty_atomS (by omega) (fun _ => ⟨(ty_many (ty_many (ty_atom n) (Or.inr ⟨rfl, Or.inl rfl⟩)) (Or.inr ⟨rfl, Or.inr rfl⟩)).mono (by omega), (ty_atom n).mono (by omega)⟩)
theorem ty_any : Ty true 17 (pAny kd nx 6) := (ty_many (ty_many (ty_atom 6) (Or.inr ⟨rfl, Or.inl rfl⟩)) (Or.inr ⟨rfl, Or.inr rfl⟩)).mono (by omega)
/-- a right text's steps leave one truth -/
theorem ty_whole {b : Nat} (h : (pWhole kd nx b).1 = true) : tyR (pWhole kd nx b).2.2 [] = some [true] := by
  unfold pWhole at h ⊢
  split at h
  · rename_i e1
    rw [if_pos e1]
    split at h
    · rename_i e2
      rw [if_pos e2]
      exact ty_any b [] e1 (by simp)
    · cases h
  · cases h
end TYPED
