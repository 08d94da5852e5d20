/-! THE REFERENCE'S WORLD: what always holds of its row; ghosts -/
def rg (x : Int32) (lo hi : Int) : Prop := lo ≤ x.toInt ∧ x.toInt ≤ hi
/-- ranges of the world's row, all places of it -/
def WInv (w : Nat → Int32) : Prop :=
  rg (w 0) 2 50 ∧ rg (w 1) 0 9 ∧ (0 ≤ (w 2).toInt ∧ (w 2).toInt < (w 0).toInt) ∧ rg (w 3) 0 9 ∧ rg (w 4) 0 50 ∧ rg (w 5) 0 8 ∧ rg (w 6) 0 10 ∧ rg (w 7) 0 6 ∧ rg (w 8) 0 3 ∧ rg (w 9) 0 24 ∧ rg (w 10) 0 6 ∧ rg (w 11) 0 4 ∧
  (∀ k, k < 8 → rg (w (12 + 5 * k)) 0 999 ∧ rg (w (13 + 5 * k)) 0 1 ∧ rg (w (14 + 5 * k)) 0 999 ∧ rg (w (15 + 5 * k)) 0 1 ∧ rg (w (16 + 5 * k)) 0 1200) ∧
  (∀ k, k < 10 → rg (w (52 + 4 * k)) 0 999 ∧ rg (w (53 + 4 * k)) 0 1 ∧ rg (w (54 + 4 * k)) 0 9999 ∧ rg (w (55 + 4 * k)) 0 1) ∧
  (∀ e, e < 6 → rg (w (92 + 14 * e)) 0 1 ∧ rg (w (93 + 14 * e)) 0 6 ∧ ∀ l, l < 6 → rg (w (94 + 14 * e + 2 * l)) 0 9999 ∧ rg (w (95 + 14 * e + 2 * l)) 0 9) ∧
  (∀ p, p < 3 → rg (w (176 + 5 * p)) 0 9 ∧ rg (w (177 + 5 * p)) 0 5 ∧ rg (w (178 + 5 * p)) 0 9999 ∧ rg (w (179 + 5 * p)) 0 9999 ∧ rg (w (180 + 5 * p)) 0 500) ∧
  (∀ r, r < 24 → rg (w (191 + 5 * r)) 0 2 ∧ rg (w (192 + 5 * r)) 0 999 ∧ rg (w (193 + 5 * r)) 0 1 ∧ rg (w (194 + 5 * r)) 0 9 ∧ rg (w (195 + 5 * r)) 0 9) ∧
  (∀ k, k < 24 → rg (w (311 + 2 * k)) 0 9 ∧ rg (w (312 + 2 * k)) 0 9)
theorem WInv.rd {w : Nat → Int32} (h : WInv w) {r : Nat} (hr : r < 24) : rg (w (191 + 5 * r)) 0 2 ∧ rg (w (192 + 5 * r)) 0 999 ∧ rg (w (193 + 5 * r)) 0 1 ∧ rg (w (194 + 5 * r)) 0 9 ∧ rg (w (195 + 5 * r)) 0 9 := h.2.2.2.2.2.2.2.2.2.2.2.2.2.2.2.2.1 r hr
theorem WInv.pl {w : Nat → Int32} (h : WInv w) {p : Nat} (hp : p < 3) : rg (w (176 + 5 * p)) 0 9 ∧ rg (w (177 + 5 * p)) 0 5 ∧ rg (w (178 + 5 * p)) 0 9999 ∧ rg (w (179 + 5 * p)) 0 9999 ∧ rg (w (180 + 5 * p)) 0 500 := h.2.2.2.2.2.2.2.2.2.2.2.2.2.2.2.1 p hp
theorem WInv.el {w : Nat → Int32} (h : WInv w) {e : Nat} (he : e < 6) : rg (w (92 + 14 * e)) 0 1 ∧ rg (w (93 + 14 * e)) 0 6 ∧ ∀ l, l < 6 → rg (w (94 + 14 * e + 2 * l)) 0 9999 ∧ rg (w (95 + 14 * e + 2 * l)) 0 9 := h.2.2.2.2.2.2.2.2.2.2.2.2.2.2.1 e he
theorem WInv.kn {w : Nat → Int32} (h : WInv w) {k : Nat} (hk : k < 10) : rg (w (52 + 4 * k)) 0 999 ∧ rg (w (53 + 4 * k)) 0 1 ∧ rg (w (54 + 4 * k)) 0 9999 ∧ rg (w (55 + 4 * k)) 0 1 := h.2.2.2.2.2.2.2.2.2.2.2.2.2.1 k hk
theorem WInv.per {w : Nat → Int32} (h : WInv w) : 0 < (w 0).toInt := by have := h.1.1; omega
/-- a number that isn't negative, as a Nat -/
def nn (x : Int32) : Nat := x.toInt.toNat
theorem nn_of {x : Int32} {lo hi : Int} (h : rg x lo hi) (h0 : 0 ≤ lo) : x = nI (nn x) ∧ (nn x : Int) = x.toInt := by
  have h1 := h.1
  have h2 : ((x.toInt.toNat : Nat) : Int) = x.toInt := Int.toNat_of_nonneg (by omega)
  have h3 := rngI x
  refine ⟨?_, h2⟩
  rw [eqI, nI_toI (by unfold nn; omega)]
  exact h2.symm
theorem WInv.nr {w : Nat → Int32} (h : WInv w) : w 9 = nI (nn (w 9)) ∧ nn (w 9) ≤ 24 := by
  have h1 := h.2.2.2.2.2.2.2.2.2.1
  obtain ⟨h2, h3⟩ := nn_of h1 (by omega)
  have := h1.2
  exact ⟨h2, by omega⟩
theorem WInv.ne {w : Nat → Int32} (h : WInv w) : w 7 = nI (nn (w 7)) ∧ nn (w 7) ≤ 6 := by
  have h1 := h.2.2.2.2.2.2.2.1
  obtain ⟨h2, h3⟩ := nn_of h1 (by omega)
  have := h1.2
  exact ⟨h2, by omega⟩
theorem WInv.nl {w : Nat → Int32} (h : WInv w) {e : Nat} (he : e < 6) : w (93 + 14 * e) = nI (nn (w (93 + 14 * e))) ∧ nn (w (93 + 14 * e)) ≤ 6 := by
  have h1 := (h.el he).2.1
  obtain ⟨h2, h3⟩ := nn_of h1 (by omega)
  have := h1.2
  exact ⟨h2, by omega⟩
theorem WInv.pr {w : Nat → Int32} (h : WInv w) {r : Nat} (hr : r < 24) : w (191 + 5 * r) = nI (nn (w (191 + 5 * r))) ∧ nn (w (191 + 5 * r)) < 3 := by
  have h1 := (h.rd hr).1
  obtain ⟨h2, h3⟩ := nn_of h1 (by omega)
  have := h1.2
  exact ⟨h2, by omega⟩
def anyB (p : Nat → Bool) : Nat → Bool
  | 0 => false
  | n + 1 => anyB p n || p n
/-- x makes r a ghost on its plate -/
def ghp (w : Nat → Int32) (r x : Nat) : Bool := decide (x ≠ r) && decide (w (191 + 5 * x) = w (191 + 5 * r)) && decide (7 ≤ (w (194 + 5 * x)).toInt) &&
  decide (jabs (jabs (w (192 + 5 * x) - w (192 + 5 * r)) - w (180 + 5 * nn (w (191 + 5 * r)))) ≤ 1)
def ghB (w : Nat → Int32) (r : Nat) : Bool := decide (0 < (w (180 + 5 * nn (w (191 + 5 * r)))).toInt) && anyB (ghp w r) (nn (w 9))
theorem nI_le_iff {a b : Nat} (ha : a < 2147483648) (hb : b < 2147483648) : nI a ≤ nI b ↔ a ≤ b := nI_leI ha hb
theorem s_M_isGhost {post : Int32 → Mem → Prop} {r : Nat} {M : Mem} (hI : WInv (M 1)) (hr : r < 24) (h : post (bi (ghB (M 1) r)) M) : P_M_isGhost post (nI r) M := by
  obtain ⟨hp, hp3⟩ := hI.pr hr
  obtain ⟨hn, hn24⟩ := hI.nr
  refine s_M_of (k := 0) hr (by omega) ?_
  rw [show 191 + 5 * r + 0 = 191 + 5 * r from rfl, hp]
  refine s_M_ofPlate (k := 4) hp3 (by omega) ?_
  rw [show 176 + 5 * nn (M 1 (191 + 5 * r)) + 4 = 180 + 5 * nn (M 1 (191 + 5 * r)) by omega]
  generalize hg : M 1 (180 + 5 * nn (M 1 (191 + 5 * r))) = gh
  have key : ∀ (d x : Nat), x + d = nn (M 1 9) → (0 < gh.toInt → True) → P_M_isGhost_17 post (d + 1) (nI r) gh (bi (decide (0 < gh.toInt) && anyB (ghp (M 1) r) x)) (nI x) M := by
    intro d
    induction d with
    | zero =>
      intro x hx _
      refine s_M_readings ⟨fun c => ?_, fun c => ?_⟩
      · refine ⟨bi_01 _, ?_⟩
        rw [show x = nn (M 1 9) by omega, ← hg]; exact h
      · rw [hn, nI_le_iff (by omega) (by omega)] at c; omega
    | succ d ih =>
      intro x hx _
      refine s_M_readings ⟨fun c => ?_, fun c => ⟨fun c2 => ?_, fun c2 => ?_⟩⟩
      · rw [hn, nI_le_iff (by omega) (by omega)] at c; omega
      · have c3 : ¬ 0 < gh.toInt := by rw [leI] at c2; have : (0 : Int32).toInt = 0 := rfl; omega
        refine ⟨bi_01 _, ?_⟩
        have e : ghB (M 1) r = (decide (0 < gh.toInt) && anyB (ghp (M 1) r) x) := by simp [ghB, hg, c3]
        rw [← e]; exact h
      · have c3 : 0 < gh.toInt := by rw [leI] at c2; have : (0 : Int32).toInt = 0 := rfl; omega
        have hx24 : x < 24 := by omega
        have next : ∀ b : Bool, anyB (ghp (M 1) r) (x + 1) = b → P_M_isGhost_17 post (d + 1) (nI r) gh (bi b) (nI x + (1 : Int32)) M := by
          intro b hb
          have := ih (x + 1) (by omega) (fun _ => trivial)
          rw [hb, decide_eq_true c3, Bool.true_and, ← nI_1] at this
          exact this
        rw [decide_eq_true c3, Bool.true_and]
        have e0 : anyB (ghp (M 1) r) (x + 1) = (anyB (ghp (M 1) r) x || ghp (M 1) r x) := rfl
        refine bn0 (fun cf => ?_) (fun ct => ?_)
        · refine ⟨fun c4 => ?_, fun c4 => ?_⟩
          · rw [nI_eq (by omega) (by omega)] at c4
            exact next false (by rw [e0, cf]; simp [ghp, c4])
          · rw [nI_eq (by omega) (by omega)] at c4
            refine s_M_of (k := 0) hx24 (by omega) (s_M_of (k := 0) hr (by omega) ⟨fun c5 => ?_, fun c5 => s_M_of (k := 3) hx24 (by omega) ⟨fun c6 => ?_, fun c6 => s_M_of (k := 1) hx24 (by omega) (s_M_of (k := 1) hr (by omega) (s_abs (s_abs ⟨fun c7 => ?_, fun c7 => ?_⟩)))⟩⟩)
            · exact next false (by rw [e0, cf]; simp [ghp]; intro _ h5; exact absurd h5 c5)
            · rw [ltI] at c6
              exact next false (by rw [e0, cf]; simp [ghp]; intro _ _ h6; rw [show 191 + 5 * x + 3 = 194 + 5 * x by omega] at c6; have : (7 : Int32).toInt = 7 := rfl; omega)
            · exact next false (by
                rw [e0, cf, ← hg] at *
                simp only [Bool.false_or, ghp, Bool.and_eq_false_iff, decide_eq_false_iff_not]
                right
                rw [show 191 + 5 * x + 1 = 192 + 5 * x by omega, show 191 + 5 * r + 1 = 192 + 5 * r by omega] at c7
                rw [ltI] at c7; rw [leI]; omega)
            · exact next true (by
                rw [e0, cf]
                rw [show 191 + 5 * x + 1 = 192 + 5 * x by omega, show 191 + 5 * r + 1 = 192 + 5 * r by omega, ← hg] at c7
                rw [show 191 + 5 * x + 3 = 194 + 5 * x by omega] at c6
                simp only [Bool.false_or, ghp, Bool.and_eq_true, decide_eq_true_eq]
                have h7 : (7 : Int32).toInt = 7 := rfl
                refine ⟨⟨⟨c4, c5⟩, ?_⟩, ?_⟩
                · rw [ltI] at c6; omega
                · rw [ltI] at c7; rw [leI]; omega)
        · exact next true (by rw [e0, ct]; rfl)
  refine ⟨nn (M 1 9) + 1, ?_⟩
  have := key (nn (M 1 9)) 0 (by omega) (fun _ => trivial)
  simpa [anyB, bi, nI_0] using this
