/-! MOST PAIRS: k pairs without a common end among S; the greatest such k -/
def Mat (E : Nat → Nat → Bool) : Nat → (Nat → Prop) → Prop
  | 0, _ => True
  | k + 1, S => ∃ u v, u ≠ v ∧ S u ∧ S v ∧ E u v = true ∧ Mat E k (fun i => S i ∧ i ≠ u ∧ i ≠ v)
theorem Mat.mono {E : Nat → Nat → Bool} : ∀ {k : Nat} {S T : Nat → Prop}, (∀ i, S i → T i) → Mat E k S → Mat E k T
  | 0, _, _, _, _ => trivial
  | k + 1, S, T, h, ⟨u, v, h1, h2, h3, h4, h5⟩ => ⟨u, v, h1, h u h2, h v h3, h4, Mat.mono (fun i hi => ⟨h i hi.1, hi.2⟩) h5⟩
theorem Mat.iff {E : Nat → Nat → Bool} {k : Nat} {S T : Nat → Prop} (h : ∀ i, S i ↔ T i) : Mat E k S ↔ Mat E k T := ⟨Mat.mono fun i => (h i).mp, Mat.mono fun i => (h i).mpr⟩
theorem Mat.split {E : Nat → Nat → Bool} (hE : ∀ u v, E u v = E v u) : ∀ {k : Nat} {S : Nat → Prop} {v : Nat}, S v → (Mat E (k + 1) S ↔ Mat E (k + 1) (fun i => S i ∧ i ≠ v) ∨ ∃ u, u ≠ v ∧ S u ∧ E u v = true ∧ Mat E k (fun i => S i ∧ i ≠ v ∧ i ≠ u)) := by
  intro k
  induction k with
  | zero =>
    intro S v hv
    constructor
    · rintro ⟨a, b, h1, h2, h3, h4, h5⟩
      by_cases ha : a = v
      · subst ha; exact Or.inr ⟨b, h1.symm, h3, by rw [hE]; exact h4, trivial⟩
      · by_cases hb : b = v
        · subst hb; exact Or.inr ⟨a, h1, h2, h4, trivial⟩
        · exact Or.inl ⟨a, b, h1, ⟨h2, ha⟩, ⟨h3, hb⟩, h4, trivial⟩
    · rintro (h | ⟨u, h1, h2, h3, h4⟩)
      · exact h.mono fun i hi => hi.1
      · exact ⟨u, v, h1, h2, hv, h3, trivial⟩
  | succ k ih =>
    intro S v hv
    constructor
    · rintro ⟨a, b, h1, h2, h3, h4, h5⟩
      by_cases ha : a = v
      · subst ha; exact Or.inr ⟨b, h1.symm, h3, by rw [hE]; exact h4, h5.mono fun i hi => ⟨hi.1, hi.2.1, hi.2.2⟩⟩
      · by_cases hb : b = v
        · subst hb; exact Or.inr ⟨a, h1, h2, h4, h5.mono fun i hi => ⟨hi.1, hi.2.2, hi.2.1⟩⟩
        · rcases (ih (S := fun i => S i ∧ i ≠ a ∧ i ≠ b) (v := v) ⟨hv, fun e => ha e.symm, fun e => hb e.symm⟩).mp h5 with h | ⟨u, g1, g2, g3, g4⟩
          · refine Or.inl ⟨a, b, h1, ⟨h2, ha⟩, ⟨h3, hb⟩, h4, h.mono fun i hi => ⟨⟨hi.1.1, hi.2⟩, hi.1.2⟩⟩
          · refine Or.inr ⟨u, g1, g2.1, g3, a, b, h1, ⟨h2, ha, fun e => g2.2.1 e.symm⟩, ⟨h3, hb, fun e => g2.2.2 e.symm⟩, h4, g4.mono fun i hi => ⟨⟨hi.1.1, hi.2.1, hi.2.2⟩, hi.1.2⟩⟩
    · rintro (h | ⟨u, h1, h2, h3, h4⟩)
      · exact h.mono fun i hi => hi.1
      · exact ⟨u, v, h1, h2, hv, h3, h4.mono fun i hi => ⟨hi.1, hi.2.2, hi.2.1⟩⟩
def maxN (f : Nat → Nat) (p : Nat → Bool) : Nat → Nat
  | 0 => 0
  | u + 1 => max (maxN f p u) (if p u then f u else 0)
theorem maxN_iff {f : Nat → Nat} {p : Nat → Bool} {k : Nat} : ∀ {n : Nat}, k + 1 ≤ maxN f p n ↔ ∃ u, u < n ∧ p u = true ∧ k + 1 ≤ f u
  | 0 => by simp [maxN]
  | n + 1 => by
    have ih := maxN_iff (f := f) (p := p) (k := k) (n := n)
    have e : k + 1 ≤ maxN f p (n + 1) ↔ k + 1 ≤ maxN f p n ∨ (p n = true ∧ k + 1 ≤ f n) := by
      simp only [maxN]
      by_cases hp : p n = true
      · rw [if_pos hp]; simp [hp]; omega
      · rw [if_neg hp]; simp [hp]
    rw [e, ih]
    constructor
    · rintro (⟨u, h1, h2, h3⟩ | ⟨h2, h3⟩)
      · exact ⟨u, by omega, h2, h3⟩
      · exact ⟨n, by omega, h2, h3⟩
    · rintro ⟨u, h1, h2, h3⟩
      by_cases e : u = n
      · subst e; exact Or.inr ⟨h2, h3⟩
      · exact Or.inl ⟨u, by omega, h2, h3⟩
/-- the most pairs among those of S below n -/
def mxF (E : Nat → Nat → Bool) : Nat → (Nat → Bool) → Nat
  | 0, _ => 0
  | n + 1, S => if S n then max (mxF E n S) (maxN (fun u => 1 + mxF E n (fun i => S i && decide (i ≠ u))) (fun u => S u && E u n) n) else mxF E n S
theorem mxF_iff {E : Nat → Nat → Bool} (hE : ∀ u v, E u v = E v u) : ∀ {n : Nat} {S : Nat → Bool} {k : Nat}, k ≤ mxF E n S ↔ Mat E k (fun i => i < n ∧ S i = true) := by
  intro n
  induction n with
  | zero =>
    intro S k
    cases k with
    | zero => simp [Mat]
    | succ k =>
      simp only [mxF]
      constructor
      · intro h; omega
      · rintro ⟨u, v, _, h2, _⟩; exact absurd h2.1 (by omega)
  | succ n ih =>
    intro S k
    cases k with
    | zero => simp [Mat]
    | succ k =>
      simp only [mxF]
      by_cases hS : S n = true
      · rw [if_pos hS, Mat.split hE (v := n) ⟨by omega, hS⟩]
        have e1 : k + 1 ≤ max (mxF E n S) (maxN (fun u => 1 + mxF E n (fun i => S i && decide (i ≠ u))) (fun u => S u && E u n) n) ↔ k + 1 ≤ mxF E n S ∨ ∃ u, u < n ∧ (S u && E u n) = true ∧ k + 1 ≤ 1 + mxF E n (fun i => S i && decide (i ≠ u)) := by
          rw [← maxN_iff]; omega
        rw [e1]
        refine or_congr ?_ ?_
        · rw [ih]; exact Mat.iff fun i => ⟨fun h => ⟨⟨by omega, h.2⟩, by omega⟩, fun h => ⟨by have := h.1.1; have := h.2; omega, h.1.2⟩⟩
        · refine exists_congr fun u => ?_
          constructor
          · rintro ⟨h1, h2, h3⟩
            simp only [Bool.and_eq_true] at h2
            refine ⟨by omega, ⟨by omega, h2.1⟩, h2.2, ?_⟩
            have h3 : k ≤ mxF E n (fun i => S i && decide (i ≠ u)) := by omega
            rw [ih] at h3
            refine h3.mono fun i hi => ?_
            have := hi.2
            simp only [Bool.and_eq_true, decide_eq_true_eq] at this
            exact ⟨⟨by omega, this.1⟩, by omega, this.2⟩
          · rintro ⟨h1, h2, h3, h4⟩
            refine ⟨by omega, by simp [h2.2, h3], ?_⟩
            have h5 : k ≤ mxF E n (fun i => S i && decide (i ≠ u)) := by
              rw [ih]
              refine h4.mono fun i hi => ⟨by have := hi.1.1; have := hi.2.1; omega, by simp [hi.1.2, hi.2.2]⟩
            omega
      · rw [if_neg hS, ih]
        refine Mat.iff fun i => ⟨fun h => ⟨by omega, h.2⟩, fun h => ⟨?_, h.2⟩⟩
        have : i ≠ n := fun e => hS (by rw [← e]; exact h.2)
        have := h.1
        omega
theorem eq_of_le_iff {a b : Nat} (h : ∀ k, k ≤ a ↔ k ≤ b) : a = b := by
  have h1 := (h a).mp (Nat.le_refl _)
  have h2 := (h b).mpr (Nat.le_refl _)
  omega
/-- the most pairs of a set of bits m -/
def dmF (E : Nat → Nat → Bool) (n m : Nat) : Nat := mxF E n (fun i => m.testBit i)
theorem mxF_le (E : Nat → Nat → Bool) : ∀ n S, mxF E n S ≤ n
  | 0, S => by simp [mxF]
  | n + 1, S => by
    have h := mxF_le E n
    have h2 : ∀ f : Nat → Nat, ∀ p, (∀ u, f u ≤ n + 1) → ∀ m, maxN f p m ≤ n + 1 := by
      intro f p hf m
      induction m with
      | zero => simp [maxN]
      | succ m ih => simp only [maxN]; have := hf m; split <;> omega
    simp only [mxF]
    have h3 := h2 (fun u => 1 + mxF E n (fun i => S i && decide (i ≠ u))) (fun u => S u && E u n) (fun u => by have := h (fun i => S i && decide (i ≠ u)); omega) n
    have h4 := h S
    split <;> omega
/-- two numbers are a step apart -/
def edB (num : Nat → Int32) (fr to_ : Int32) (a b : Nat) : Bool := inb (jabs (num a - num b)) fr to_
theorem jabs_sym (x y : Int32) (hx : rg x 0 10000000) (hy : rg y 0 10000000) : jabs (x - y) = jabs (y - x) := by
  unfold rg at hx hy
  rw [eqI, jabsI (by rw [subI (by omega) (by omega)]; omega), jabsI (by rw [subI (by omega) (by omega)]; omega), subI (by omega) (by omega), subI (by omega) (by omega)]
  split <;> split <;> omega
/-! the lowest bit -/
def ntz (x : Int32) : Nat := (List.range 10).find? (fun i => gb x i) |>.getD 10
theorem ntz_all : ∀ x : Fin 1024, x.1 ≠ 0 → x.1.testBit (ntz (nI x.1)) = true ∧ ntz (nI x.1) < 10 ∧ (x.1 &&& (x.1 - 1)) < x.1 ∧ ∀ i : Fin 10, (x.1 &&& (x.1 - 1)).testBit i.1 = (x.1.testBit i.1 && decide (i.1 ≠ ntz (nI x.1))) := by decide +kernel
theorem ntz_low : ∀ x : Fin 1024, ∀ i : Fin 10, i.1 < ntz (nI x.1) → x.1.testBit i.1 = false := by decide +kernel
