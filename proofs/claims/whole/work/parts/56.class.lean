/-! THE CLASS: its cells by the places of the reference's row -/
def locT (i : Nat) : Nat × Nat :=
  if i < 12 then [(1, 6), (1, 7), (1, 8), (1, 9), (7, 5), (1, 5), (7, 4), (12, 4), (17, 5), (17, 11), (0, 8), (0, 7)].getD i (0, 0)
  else if i < 52 then (2 + (i - 12) % 5, (i - 12) / 5) else if i < 92 then (8 + (i - 52) % 4, (i - 52) / 4)
  else if i < 176 then (if (i - 92) % 14 < 2 then (13 + (i - 92) % 14, (i - 92) / 14) else (15 + (i - 92) % 2, 6 * ((i - 92) / 14) + ((i - 92) % 14 - 2) / 2))
  else if i < 191 then (18 + (i - 176) % 5, (i - 176) / 5) else if i < 311 then (23 + (i - 191) % 5, (i - 191) / 5) else (28 + (i - 311) % 2, (i - 311) / 2)
def locI (c s : Nat) : Nat :=
  if c = 0 then (if s = 8 then 10 else 11) else if c = 1 then (if s = 5 then 5 else s - 6) else if c = 7 then (if s = 5 then 4 else 6) else if c = 12 then 7 else if c = 17 then (if s = 5 then 8 else 9)
  else if c < 7 then 12 + 5 * s + (c - 2) else if c < 12 then 52 + 4 * s + (c - 8) else if c < 15 then 92 + 14 * s + (c - 13) else if c < 17 then 94 + 14 * (s / 6) + 2 * (s % 6) + (c - 15)
  else if c < 23 then 176 + 5 * s + (c - 18) else if c < 28 then 191 + 5 * s + (c - 23) else 311 + 2 * s + (c - 28)
theorem locI_T : ∀ i : Fin 359, locI (locT i.1).1 (locT i.1).2 = i.1 ∧ (locT i.1).1 ≤ 29 := by decide +kernel
/-- the desk at base b holds the row w -/
def Dk (b : Nat) (M : Mem) (w : Nat → Int32) : Prop := ∀ i, i < 359 → M (b + (locT i).1) (locT i).2 = w i
theorem Dk.put {b : Nat} {M : Mem} {w : Nat → Int32} (h : Dk b M w) {i c s : Nat} (hi : i < 359) (hl : locT i = (c, s)) (v : Int32) : Dk b (ms M (b + c) s v) (upd w i v) := by
  intro j hj
  by_cases e : j = i
  · rw [e, hl, ms_at, upd_eq]
  · rw [upd_ne _ _ e, ← h j hj]
    by_cases e1 : b + (locT j).1 = b + c
    · have e2 : (locT j).2 ≠ s := by
        intro e2
        have h1 := (locI_T ⟨j, hj⟩).1
        have h2 := (locI_T ⟨i, hi⟩).1
        simp only [] at h1 h2
        rw [hl] at h2
        rw [show (locT j).1 = c by omega, e2] at h1
        exact e (h1.symm.trans h2)
      rw [e1, ms_ne _ _ _ e2]
    · rw [ms_off _ _ _ e1]
theorem Dk.off {b : Nat} {M M' : Mem} {w : Nat → Int32} (h : Dk b M w) (hM : ∀ c, b ≤ c → c ≤ b + 29 → M' c = M c) : Dk b M' w := by
  intro i hi
  have := (locI_T ⟨i, hi⟩).2
  simp only [] at this
  rw [hM _ (by omega) (by omega)]
  exact h i hi
section DESK
variable {M : Mem} {w : Nat → Int32} (h : Dk 1 M w)
theorem loc_g : ∀ k : Fin 8, locT (12 + 5 * k.1) = (2, k.1) ∧ locT (13 + 5 * k.1) = (3, k.1) ∧ locT (14 + 5 * k.1) = (4, k.1) ∧ locT (15 + 5 * k.1) = (5, k.1) ∧ locT (16 + 5 * k.1) = (6, k.1) := by decide
theorem loc_k : ∀ k : Fin 10, locT (52 + 4 * k.1) = (8, k.1) ∧ locT (53 + 4 * k.1) = (9, k.1) ∧ locT (54 + 4 * k.1) = (10, k.1) ∧ locT (55 + 4 * k.1) = (11, k.1) := by decide
theorem loc_e : ∀ e : Fin 6, locT (92 + 14 * e.1) = (13, e.1) ∧ locT (93 + 14 * e.1) = (14, e.1) := by decide
theorem loc_l : ∀ e l : Fin 6, locT (94 + 14 * e.1 + 2 * l.1) = (15, 6 * e.1 + l.1) ∧ locT (95 + 14 * e.1 + 2 * l.1) = (16, 6 * e.1 + l.1) := by decide
theorem loc_p : ∀ k : Fin 3, locT (176 + 5 * k.1) = (18, k.1) ∧ locT (177 + 5 * k.1) = (19, k.1) ∧ locT (178 + 5 * k.1) = (20, k.1) ∧ locT (179 + 5 * k.1) = (21, k.1) ∧ locT (180 + 5 * k.1) = (22, k.1) := by decide
theorem loc_r : ∀ k : Fin 24, locT (191 + 5 * k.1) = (23, k.1) ∧ locT (192 + 5 * k.1) = (24, k.1) ∧ locT (193 + 5 * k.1) = (25, k.1) ∧ locT (194 + 5 * k.1) = (26, k.1) ∧ locT (195 + 5 * k.1) = (27, k.1) := by decide
theorem loc_c : ∀ k : Fin 24, locT (311 + 2 * k.1) = (28, k.1) ∧ locT (312 + 2 * k.1) = (29, k.1) := by decide
end DESK
theorem Dk.per {M : Mem} {w : Nat → Int32} (h : Dk 1 M w) : M 2 6 = w 0 := h 0 (by omega)
theorem Dk.wear {M : Mem} {w : Nat → Int32} (h : Dk 1 M w) : M 2 7 = w 1 := h 1 (by omega)
theorem Dk.pha {M : Mem} {w : Nat → Int32} (h : Dk 1 M w) : M 2 8 = w 2 := h 2 (by omega)
theorem Dk.lag {M : Mem} {w : Nat → Int32} (h : Dk 1 M w) : M 2 9 = w 3 := h 3 (by omega)
theorem Dk.err {M : Mem} {w : Nat → Int32} (h : Dk 1 M w) : M 8 5 = w 4 := h 4 (by omega)
theorem Dk.ng {M : Mem} {w : Nat → Int32} (h : Dk 1 M w) : M 2 5 = w 5 := h 5 (by omega)
theorem Dk.nk {M : Mem} {w : Nat → Int32} (h : Dk 1 M w) : M 8 4 = w 6 := h 6 (by omega)
theorem Dk.ne {M : Mem} {w : Nat → Int32} (h : Dk 1 M w) : M 13 4 = w 7 := h 7 (by omega)
theorem Dk.np {M : Mem} {w : Nat → Int32} (h : Dk 1 M w) : M 18 5 = w 8 := h 8 (by omega)
theorem Dk.nr {M : Mem} {w : Nat → Int32} (h : Dk 1 M w) : M 18 11 = w 9 := h 9 (by omega)
theorem Dk.nc {M : Mem} {w : Nat → Int32} (h : Dk 1 M w) : M 1 8 = w 10 := h 10 (by omega)
theorem Dk.nm {M : Mem} {w : Nat → Int32} (h : Dk 1 M w) : M 1 7 = w 11 := h 11 (by omega)
theorem Dk.g1 {M : Mem} {w : Nat → Int32} (h : Dk 1 M w) {k : Nat} (hk : k < 8) : M 3 k = w (12 + 5 * k) := by
  have h1 := h (12 + 5 * k) (by omega)
  rw [(loc_g ⟨k, hk⟩).1] at h1
  exact h1
theorem Dk.g1d {M : Mem} {w : Nat → Int32} (h : Dk 1 M w) {k : Nat} (hk : k < 8) : M 4 k = w (13 + 5 * k) := by
  have h1 := h (13 + 5 * k) (by omega)
  rw [(loc_g ⟨k, hk⟩).2.1] at h1
  exact h1
theorem Dk.g2 {M : Mem} {w : Nat → Int32} (h : Dk 1 M w) {k : Nat} (hk : k < 8) : M 5 k = w (14 + 5 * k) := by
  have h1 := h (14 + 5 * k) (by omega)
  rw [(loc_g ⟨k, hk⟩).2.2.1] at h1
  exact h1
theorem Dk.g2d {M : Mem} {w : Nat → Int32} (h : Dk 1 M w) {k : Nat} (hk : k < 8) : M 6 k = w (15 + 5 * k) := by
  have h1 := h (15 + 5 * k) (by omega)
  rw [(loc_g ⟨k, hk⟩).2.2.2.1] at h1
  exact h1
theorem Dk.ga {M : Mem} {w : Nat → Int32} (h : Dk 1 M w) {k : Nat} (hk : k < 8) : M 7 k = w (16 + 5 * k) := by
  have h1 := h (16 + 5 * k) (by omega)
  rw [(loc_g ⟨k, hk⟩).2.2.2.2] at h1
  exact h1
theorem Dk.kp {M : Mem} {w : Nat → Int32} (h : Dk 1 M w) {k : Nat} (hk : k < 10) : M 9 k = w (52 + 4 * k) := by
  have h1 := h (52 + 4 * k) (by omega)
  rw [(loc_k ⟨k, hk⟩).1] at h1
  exact h1
theorem Dk.kd {M : Mem} {w : Nat → Int32} (h : Dk 1 M w) {k : Nat} (hk : k < 10) : M 10 k = w (53 + 4 * k) := by
  have h1 := h (53 + 4 * k) (by omega)
  rw [(loc_k ⟨k, hk⟩).2.1] at h1
  exact h1
theorem Dk.kw {M : Mem} {w : Nat → Int32} (h : Dk 1 M w) {k : Nat} (hk : k < 10) : M 11 k = w (54 + 4 * k) := by
  have h1 := h (54 + 4 * k) (by omega)
  rw [(loc_k ⟨k, hk⟩).2.2.1] at h1
  exact h1
theorem Dk.ks {M : Mem} {w : Nat → Int32} (h : Dk 1 M w) {k : Nat} (hk : k < 10) : M 12 k = w (55 + 4 * k) := by
  have h1 := h (55 + 4 * k) (by omega)
  rw [(loc_k ⟨k, hk⟩).2.2.2] at h1
  exact h1
theorem Dk.air {M : Mem} {w : Nat → Int32} (h : Dk 1 M w) {k : Nat} (hk : k < 6) : M 14 k = w (92 + 14 * k) := by
  have h1 := h (92 + 14 * k) (by omega)
  rw [(loc_e ⟨k, hk⟩).1] at h1
  exact h1
theorem Dk.nl {M : Mem} {w : Nat → Int32} (h : Dk 1 M w) {k : Nat} (hk : k < 6) : M 15 k = w (93 + 14 * k) := by
  have h1 := h (93 + 14 * k) (by omega)
  rw [(loc_e ⟨k, hk⟩).2] at h1
  exact h1
theorem Dk.ptime {M : Mem} {w : Nat → Int32} (h : Dk 1 M w) {k : Nat} (hk : k < 3) : M 19 k = w (176 + 5 * k) := by
  have h1 := h (176 + 5 * k) (by omega)
  rw [(loc_p ⟨k, hk⟩).1] at h1
  exact h1
theorem Dk.pslit {M : Mem} {w : Nat → Int32} (h : Dk 1 M w) {k : Nat} (hk : k < 3) : M 20 k = w (177 + 5 * k) := by
  have h1 := h (177 + 5 * k) (by omega)
  rw [(loc_p ⟨k, hk⟩).2.1] at h1
  exact h1
theorem Dk.pfrom {M : Mem} {w : Nat → Int32} (h : Dk 1 M w) {k : Nat} (hk : k < 3) : M 21 k = w (178 + 5 * k) := by
  have h1 := h (178 + 5 * k) (by omega)
  rw [(loc_p ⟨k, hk⟩).2.2.1] at h1
  exact h1
theorem Dk.pto {M : Mem} {w : Nat → Int32} (h : Dk 1 M w) {k : Nat} (hk : k < 3) : M 22 k = w (179 + 5 * k) := by
  have h1 := h (179 + 5 * k) (by omega)
  rw [(loc_p ⟨k, hk⟩).2.2.2.1] at h1
  exact h1
theorem Dk.pgh {M : Mem} {w : Nat → Int32} (h : Dk 1 M w) {k : Nat} (hk : k < 3) : M 23 k = w (180 + 5 * k) := by
  have h1 := h (180 + 5 * k) (by omega)
  rw [(loc_p ⟨k, hk⟩).2.2.2.2] at h1
  exact h1
theorem Dk.rp {M : Mem} {w : Nat → Int32} (h : Dk 1 M w) {k : Nat} (hk : k < 24) : M 24 k = w (191 + 5 * k) := by
  have h1 := h (191 + 5 * k) (by omega)
  rw [(loc_r ⟨k, hk⟩).1] at h1
  exact h1
theorem Dk.rl {M : Mem} {w : Nat → Int32} (h : Dk 1 M w) {k : Nat} (hk : k < 24) : M 25 k = w (192 + 5 * k) := by
  have h1 := h (192 + 5 * k) (by omega)
  rw [(loc_r ⟨k, hk⟩).2.1] at h1
  exact h1
theorem Dk.rd {M : Mem} {w : Nat → Int32} (h : Dk 1 M w) {k : Nat} (hk : k < 24) : M 26 k = w (193 + 5 * k) := by
  have h1 := h (193 + 5 * k) (by omega)
  rw [(loc_r ⟨k, hk⟩).2.2.1] at h1
  exact h1
theorem Dk.rs {M : Mem} {w : Nat → Int32} (h : Dk 1 M w) {k : Nat} (hk : k < 24) : M 27 k = w (194 + 5 * k) := by
  have h1 := h (194 + 5 * k) (by omega)
  rw [(loc_r ⟨k, hk⟩).2.2.2.1] at h1
  exact h1
theorem Dk.rw {M : Mem} {w : Nat → Int32} (h : Dk 1 M w) {k : Nat} (hk : k < 24) : M 28 k = w (195 + 5 * k) := by
  have h1 := h (195 + 5 * k) (by omega)
  rw [(loc_r ⟨k, hk⟩).2.2.2.2] at h1
  exact h1
theorem Dk.clo {M : Mem} {w : Nat → Int32} (h : Dk 1 M w) {k : Nat} (hk : k < 24) : M 29 k = w (311 + 2 * k) := by
  have h1 := h (311 + 2 * k) (by omega)
  rw [(loc_c ⟨k, hk⟩).1] at h1
  exact h1
theorem Dk.chi {M : Mem} {w : Nat → Int32} (h : Dk 1 M w) {k : Nat} (hk : k < 24) : M 30 k = w (312 + 2 * k) := by
  have h1 := h (312 + 2 * k) (by omega)
  rw [(loc_c ⟨k, hk⟩).2] at h1
  exact h1
theorem Dk.wv {M : Mem} {w : Nat → Int32} (h : Dk 1 M w) {e l : Nat} (he : e < 6) (hl : l < 6) : M 16 (6 * e + l) = w (94 + 14 * e + 2 * l) := by
  have h1 := h (94 + 14 * e + 2 * l) (by omega)
  rw [(loc_l ⟨e, he⟩ ⟨l, hl⟩).1] at h1
  exact h1
theorem Dk.st {M : Mem} {w : Nat → Int32} (h : Dk 1 M w) {e l : Nat} (he : e < 6) (hl : l < 6) : M 17 (6 * e + l) = w (95 + 14 * e + 2 * l) := by
  have h1 := h (95 + 14 * e + 2 * l) (by omega)
  rw [(loc_l ⟨e, he⟩ ⟨l, hl⟩).2] at h1
  exact h1
/-! laws, as the class keeps them -/
/-- a point of a hull: A, B, C -/
def ptI (a b c : Int) : Int32 := I (4096 * a + 32 * b + (c + 9))
def htZ (a b c z : Int) : Int := 10000 * a + abN b c z
/-- lower (or higher) than -/
def dmZ (most : Bool) (x y : Int) : Prop := if most then y ≤ x else x ≤ y
def aK (w : Nat → Int32) (most : Bool) (k : Nat) : Int := if most then hiA w 0 (kb k) (kc k) else loA w 0 (kb k) (kc k)
def hK (w : Nat → Int32) (most : Bool) (k : Nat) (z : Int) : Int := htZ (aK w most k) (kb k) (kc k) z
/-- the points kept stand for laws that hold, and none lies beyond them all -/
def HuK (w : Nat → Int32) (A : Nat → Int32) (n : Nat) (kk : Nat → Nat) (most : Bool) (ok : Nat → Bool) : Prop :=
  (∀ i, i < n → kk i < 1710 ∧ ok (kk i) = true ∧ A i = ptI (aK w most (kk i)) (kb (kk i)) (kc (kk i))) ∧ ∀ (z : Int) (k : Nat), k < 1710 → ok k = true → ∃ i, i < n ∧ dmZ most (hK w most (kk i) z) (hK w most k z)
/-- the solver is fresh: all that it keeps is right -/
def LwOK (M : Mem) (w : Nat → Int32) : Prop :=
  M 63 8 = I (toA w 0) ∧ (0 < toA w 0 → ∃ k, k < 1710 ∧ okA w k = true ∧ (∀ j, j < k → okA w j = false) ∧ M 63 9 = I (loA w 0 (kb k) (kc k)) ∧ M 63 10 = I (kb k) ∧ M 63 11 = I (kc k)) ∧
  (∃ n kk, n ≤ 1710 ∧ M 63 6 = nI n ∧ HuK w (M 65) n kk false (okA w)) ∧ (∃ n kk, n ≤ 1710 ∧ M 63 7 = nI n ∧ HuK w (M 66) n kk true (okA w)) ∧
  ∀ s, s < 1087 → M 67 s = -1000000 ∨ (M 67 s = I (edZ w ((s : Int) - 39) false) ∧ M 68 s = I (edZ w ((s : Int) - 39) true))
def Lw (M : Mem) (w : Nat → Int32) : Prop := M 63 12 = 0 ∨ LwOK M w
/-- only the solver, the judge, the bells and the rows have changed -/
def FrQ (M M' : Mem) : Prop := ∀ c, (c < 63 ∨ 84 ≤ c) → M' c = M c
theorem FrQ.refl (M : Mem) : FrQ M M := fun _ _ => rfl
theorem FrQ.trans {A B C : Mem} (h1 : FrQ A B) (h2 : FrQ B C) : FrQ A C := fun c hc => by rw [h2 c hc, h1 c hc]
theorem FrQ.put {M M' : Mem} (h : FrQ M M') {k : Nat} (hk : 63 ≤ k ∧ k < 84) (i : Nat) (v : Int32) : FrQ M (ms M' k i v) := fun c hc => by rw [ms_off _ _ _ (by omega)]; exact h c hc
theorem FrQ.dk {M M' : Mem} {w : Nat → Int32} (h : FrQ M M') (hD : Dk 1 M w) : Dk 1 M' w := hD.off (fun c h1 h2 => h c (by omega))
/-- only the solver has changed -/
def FrL (M M' : Mem) : Prop := ∀ c, (c < 63 ∨ 69 ≤ c) → M' c = M c
theorem FrL.refl (M : Mem) : FrL M M := fun _ _ => rfl
theorem FrL.trans {A B C : Mem} (h1 : FrL A B) (h2 : FrL B C) : FrL A C := fun c hc => by rw [h2 c hc, h1 c hc]
theorem FrL.put {M M' : Mem} (h : FrL M M') {k : Nat} (hk : 63 ≤ k ∧ k < 69) (i : Nat) (v : Int32) : FrL M (ms M' k i v) := fun c hc => by rw [ms_off _ _ _ (by omega)]; exact h c hc
theorem FrL.dk {M M' : Mem} {w : Nat → Int32} (h : FrL M M') (hD : Dk 1 M w) : Dk 1 M' w := hD.off (fun c h1 h2 => h c (by omega))
theorem FrL.q {M M' : Mem} (h : FrL M M') : FrQ M M' := fun c hc => h c (by omega)
/-! the screw -/
theorem s_C_turned {post : Int32 → Mem → Prop} {w : Nat → Int32} {p wr ph : Int32} {M : Mem} (hD : Dk 1 M w) (hI : WInv w) (h : post (turn p 0 (w 0) wr ph 0) M) : P_Screw_turned post p wr ph M := by
  have hper := hI.per
  unfold P_Screw_turned
  rw [hD.per]
  refine ⟨fun _ => s_floorMod hper ?_, fun c => absurd (by rw [leI]; have : (1 : Int32).toInt = 1 := rfl; omega) c⟩
  unfold turn at h
  rw [if_neg (show ¬ (0 : Int32) = 1 by decide), Int32.add_zero] at h
  rw [hD.per]
  refine ⟨fun c => ⟨fun _ => ?_, fun q => absurd rfl q⟩, fun c => ⟨fun q => absurd q (by decide), fun _ => ?_⟩⟩
  · rw [if_neg (by rw [leI] at c; rw [ltI]; omega), ← Int32.sub_eq_add_neg] at h; exact h
  · rw [if_pos (by rw [leI] at c; rw [ltI]; omega)] at h; exact h
theorem turn_add (p d a b c l : Int32) : turn p d a b c l = turn p 0 a b c 0 + (if d = 1 then l else 0) := by
  unfold turn
  rw [if_neg (show ¬ (0 : Int32) = 1 by decide), Int32.add_zero]
theorem s_C_truePlace {post : Int32 → Mem → Prop} {w : Nat → Int32} {p d : Int32} {M : Mem} (hD : Dk 1 M w) (hI : WInv w) (hd : d = 0 ∨ d = 1) (h : post (tpl w p d) M) : P_Screw_truePlace post p d M := by
  unfold tpl at h
  rw [turn_add] at h
  unfold P_Screw_truePlace
  rw [hD.wear, hD.pha]
  refine s_C_turned hD hI ?_
  rw [hD.lag]
  rcases hd with rfl | rfl
  · rw [if_neg (by decide)] at h
    exact ⟨fun _ => h, fun q => absurd rfl q⟩
  · rw [if_pos rfl] at h
    exact ⟨fun q => absurd q (by decide), fun _ => h⟩
def IAE : String := "java/lang/IllegalArgumentException"
def IOB : String := "java/lang/IndexOutOfBoundsException"
def UOE : String := "java/lang/UnsupportedOperationException"
def NSE : String := "java/util/NoSuchElementException"
/-- a question to the class: its answer, or what it throws, by the number that the law has for it -/
def QX (post : Int32 → Mem → Prop) (ex : String → Mem → Prop) (M : Mem) (w : Nat → Int32) (E : List String) (q : Int32 × Int32) : Prop :=
  (q.1 = 0 → ∀ M', FrQ M M' → Lw M' w → post q.2 M') ∧ ∀ k s, E[k]? = some s → q.1 = nI (k + 1) → ex s M
theorem QX.go {post : Int32 → Mem → Prop} {ex : String → Mem → Prop} {M : Mem} {w : Nat → Int32} {E : List String} {v : Int32} (h : QX post ex M w E (qi 0 v)) {M' : Mem} (hF : FrQ M M') (hL : Lw M' w) : post v M' := h.1 rfl M' hF hL
theorem QX.bad1 {post : Int32 → Mem → Prop} {ex : String → Mem → Prop} {M : Mem} {w : Nat → Int32} {a : String} {E : List String} {v : Int32} (h : QX post ex M w (a :: E) (qi 1 v)) : ex a M := h.2 0 a rfl rfl
theorem QX.bad2 {post : Int32 → Mem → Prop} {ex : String → Mem → Prop} {M : Mem} {w : Nat → Int32} {a b : String} {E : List String} {v : Int32} (h : QX post ex M w (a :: b :: E) (qi 2 v)) : ex b M := h.2 1 b rfl rfl
theorem s_want {E : String} {post : Mem → Prop} {ex : String → Mem → Prop} {b : Bool} {M : Mem} (ht : b = true → post M) (hf : b = false → ex E M) : P_want E post ex (bi b) M := bn0 hf ht
theorem s_R_truly {post : Int32 → Mem → Prop} {ex : String → Mem → Prop} {w : Nat → Int32} {p : Int32} {dn : Bool} {M : Mem} (hD : Dk 1 M w) (hI : WInv w) (hL : Lw M w) (h : QX post ex M w [IAE] (if inb p 0 999 then qi 0 (tpl w p (bi dn)) else qi 1 0)) : P_R_truly post ex p (bi dn) M := by
  refine s_R_within (s_want (fun c => s_C_truePlace hD hI (bi_01 _) ?_) (fun c => ?_))
  · rw [c] at h; exact h.go (FrQ.refl M) hL
  · rw [c] at h; exact h.bad1
/-! gauges: fits -/
theorem s_C_wearOf {post : Int32 → Mem → Prop} {w : Nat → Int32} {n : Nat} {M : Mem} (hD : Dk 1 M w) (hI : WInv w) (hn : n < 100000) (h : post (nI (wO (nn (w 0)) n)) M) : P_Screw_wearOf post (nI n) M := by
  obtain ⟨hP, hP2, hP50⟩ := hI.nP
  unfold P_Screw_wearOf
  rw [hD.per, hP, show (10 : Int32) = nI 10 from rfl, ltI, nI_toI (by omega), nI_toI (by omega)]
  unfold wO at h
  refine ⟨fun c => ?_, fun c => ⟨fun _ => ⟨?_, fun v e => ?_⟩, fun q => absurd ?_ q⟩⟩
  · rw [if_pos (by omega)] at h; exact h
  · rw [show (0 : Int32) = nI 0 from rfl, nI_eq (by omega) (by omega)]; omega
  · rw [if_neg (by omega)] at h
    have es : nI n - nI 10 = nI (n - 10) := by rw [nI_I, nI_I, I_sub, nI_I]; congr 1; omega
    have hd := Nat.div_le_self (n - 10) (nn (w 0))
    rw [es, nI_div (by omega) (by omega) (by omega), nI_div (by omega) (by omega) (by omega), show (1 : Int32) = nI 1 from rfl, nI_add] at e
    rw [e]; exact h
  · rw [show (1 : Int32) = nI 1 from rfl, nI_le_iff (by omega) (by omega)]; omega
theorem s_C_lagOf {post : Int32 → Mem → Prop} {w : Nat → Int32} {n : Nat} {M : Mem} (hD : Dk 1 M w) (hI : WInv w) (hn : n < 100000) (h : post (nI (lO (nn (w 0)) n)) M) : P_Screw_lagOf post (nI n) M := by
  obtain ⟨hP, hP2, hP50⟩ := hI.nP
  unfold P_Screw_lagOf
  rw [hD.per, hP, show (10 : Int32) = nI 10 from rfl, ltI, nI_toI (by omega), nI_toI (by omega)]
  unfold lO at h
  refine ⟨fun c => ?_, fun c => ⟨fun _ => ⟨?_, ?_⟩, fun q => absurd ?_ q⟩⟩
  · rw [if_pos (by omega)] at h; exact h
  · rw [show (0 : Int32) = nI 0 from rfl, nI_eq (by omega) (by omega)]; omega
  · rw [if_neg (by omega)] at h
    have es : nI n - nI 10 = nI (n - 10) := by rw [nI_I, nI_I, I_sub, nI_I]; congr 1; omega
    have hd := Nat.div_le_self (n - 10) (nn (w 0))
    rw [es, nI_div (by omega) (by omega) (by omega)]
    generalize (n - 10) / nn (w 0) = dq at *
    have er : irm (nI dq) (nI 10) = nI (dq % 10) := by rw [nI_I, nI_I, I_rem (by omega) (by omega), nI_I]; rfl
    rw [er]
    exact h
  · rw [show (1 : Int32) = nI 1 from rfl, nI_le_iff (by omega) (by omega)]; omega
theorem s_C_phaseOf {post : Int32 → Mem → Prop} {w : Nat → Int32} {n : Nat} {M : Mem} (hD : Dk 1 M w) (hI : WInv w) (hn : n < 100000) (h : post (nI (pO (nn (w 0)) n)) M) : P_Screw_phaseOf post (nI n) M := by
  obtain ⟨hP, hP2, hP50⟩ := hI.nP
  unfold P_Screw_phaseOf
  rw [hD.per, hP, show (10 : Int32) = nI 10 from rfl, ltI, nI_toI (by omega), nI_toI (by omega)]
  unfold pO at h
  refine ⟨fun c => ?_, fun c => ⟨fun _ => ⟨?_, ?_⟩, fun q => absurd ?_ q⟩⟩
  · rw [if_pos (by omega)] at h; exact h
  · rw [show (0 : Int32) = nI 0 from rfl, nI_eq (by omega) (by omega)]; omega
  · rw [if_neg (by omega)] at h
    have es : nI n - nI 10 = nI (n - 10) := by rw [nI_I, nI_I, I_sub, nI_I]; congr 1; omega
    have er : irm (nI (n - 10)) (nI (nn (w 0))) = nI ((n - 10) % nn (w 0)) := by rw [nI_I, nI_I, I_rem (by omega) (by omega), nI_I]; rfl
    rw [es, er]
    exact h
  · rw [show (1 : Int32) = nI 1 from rfl, nI_le_iff (by omega) (by omega)]; omega
theorem jabs_nn (x : Int32) (h : x.toInt ≠ -2147483648) : 0 ≤ (jabs x).toInt := by rw [jabsI h]; split <;> omega
/-- near by one, told both ways -/
theorem near1 {x y : Int32} (hx : rg x 0 100000) (hy : rg y 0 100000) : inb (x - y) (-1) 1 = decide (¬ 1 < jabs (x - y)) := by
  unfold rg at hx hy
  have e1 : (1 : Int32).toInt = 1 := rfl
  have e2 : (-1 : Int32).toInt = -1 := rfl
  have es : (x - y).toInt = x.toInt - y.toInt := subI (by omega) (by omega)
  rw [Bool.eq_iff_iff, inb, decide_eq_true_eq, decide_eq_true_eq, leI, leI, ltI, jabsI (by omega), es, e1, e2]
  split <;> omega
theorem lO_lt {P n : Nat} : lO P n < 10 := by unfold lO; split <;> omega
theorem wO_lt {P n : Nat} (h : n < 10 + 90 * P) : wO P n < 10 := by
  unfold wO
  split
  · omega
  · have h1 : (n - 10) / P < 90 := Nat.div_lt_of_lt_mul (by rw [Nat.mul_comm]; omega)
    omega
theorem s_C_isFit {post : Int32 → Mem → Prop} {w : Nat → Int32} {n : Nat} {M : Mem} (hD : Dk 1 M w) (hI : WInv w) (hn : n < 10 + 90 * nn (w 0)) (h : post (bi (isJ w n)) M) : P_Screw_isFit post (nI n) M := by
  obtain ⟨hP, hP2, hP50⟩ := hI.nP
  obtain ⟨hng, hng8⟩ := hI.ng
  refine s_C_wearOf hD hI (by omega) (s_C_lagOf hD hI (by omega) (s_C_phaseOf hD hI (by omega) ?_))
  unfold isJ at h
  have hw9 := wO_lt hn
  have hl9 := lO_lt (P := nn (w 0)) (n := n)
  generalize wO (nn (w 0)) n = wr at *
  generalize lO (nn (w 0)) n = lg at *
  generalize pO (nn (w 0)) n = ph at *
  unfold isF at h
  have hgf : ∀ k, gfB w (nI wr) (nI lg) (nI ph) k = decide (¬ 1 < jabs (jabs (turn (w (12 + 5 * k)) (w (13 + 5 * k)) (w 0) (nI wr) (nI ph) (nI lg) - turn (w (14 + 5 * k)) (w (15 + 5 * k)) (w 0) (nI wr) (nI ph) (nI lg)) - w (16 + 5 * k))) := fun k => rfl
  generalize gfB w (nI wr) (nI lg) (nI ph) = F at *
  have hwr : rg (nI wr) 0 9 := by unfold rg; rw [nI_toI (by omega)]; omega
  have hlr : rg (nI lg) 0 9 := by unfold rg; rw [nI_toI (by omega)]; omega
  have key : ∃ j, allB F 0 = true → P_Screw_isFit_22 post j (nI wr) (nI lg) (nI ph) (nI 0) M := by
    refine lpN (R := fun j k => allB F k = true → P_Screw_isFit_22 post j (nI wr) (nI lg) (nI ph) (nI k) M) (N := nn (w 5)) (fun j hk => ?_) (fun j k hk ih hall => ?_)
    · rw [hk] at h
      exact brSt (by rw [hD.ng]; exact hng) h
    · have hk8 : k < 8 := by omega
      have hg := hI.2.2.2.2.2.2.2.2.2.2.2.2.1 k hk8
      have e5 : allB F (k + 1) = F k := by simp only [allB, hall, Bool.true_and]
      unfold P_Screw_isFit_22
      rw [nI_clamp (by omega), hD.g1 hk8, hD.ng]
      refine brGo hng (by omega) hk ⟨vin_nI (by omega) (by omega), s_C_turned hD hI ⟨vin_nI (by omega) (by omega), ?_⟩⟩
      rw [hD.g1d hk8]
      have t1 := turn_rg (d := w (13 + 5 * k)) (a := w 0) (c := nI ph) hg.1 hwr hlr
      have t2 := turn_rg (d := w (15 + 5 * k)) (a := w 0) (c := nI ph) hg.2.2.1 hwr hlr
      have fin : ∀ s1 s2 : Int32, turn (w (12 + 5 * k)) 0 (w 0) (nI wr) (nI ph) 0 + s1 = turn (w (12 + 5 * k)) (w (13 + 5 * k)) (w 0) (nI wr) (nI ph) (nI lg) → turn (w (14 + 5 * k)) 0 (w 0) (nI wr) (nI ph) 0 + s2 = turn (w (14 + 5 * k)) (w (15 + 5 * k)) (w 0) (nI wr) (nI ph) (nI lg) →
          P_Screw_isFit_92 post (P_Screw_isFit_22 post j) (nI wr) (nI lg) (nI ph) (nI k) (turn (w (12 + 5 * k)) 0 (w 0) (nI wr) (nI ph) 0 + s1) (turn (w (14 + 5 * k)) 0 (w 0) (nI wr) (nI ph) 0) s2 M := by
        intro s1 s2 q1 q2 x7 e7
        rw [q2] at e7
        rw [q1, e7]
        refine s_abs ⟨vin_nI (by omega) (by omega), s_R_within ?_⟩
        rw [nI_clamp (by omega), hD.ga hk8]
        unfold rg at t1 t2
        have hsub : (turn (w (12 + 5 * k)) (w (13 + 5 * k)) (w 0) (nI wr) (nI ph) (nI lg) - turn (w (14 + 5 * k)) (w (15 + 5 * k)) (w 0) (nI wr) (nI ph) (nI lg)).toInt = _ := subI (by omega) (by omega)
        have ha : rg (jabs (turn (w (12 + 5 * k)) (w (13 + 5 * k)) (w 0) (nI wr) (nI ph) (nI lg) - turn (w (14 + 5 * k)) (w (15 + 5 * k)) (w 0) (nI wr) (nI ph) (nI lg))) 0 100000 := by
          unfold rg
          rw [jabsI (by omega), hsub]
          split <;> omega
        rw [near1 ha (rg_mono hg.2.2.2.2 (by omega) (by omega)), ← hgf k]
        refine bn0 (fun c => ?_) (fun c => ?_)
        · rw [allB_le (x := k + 1) (by omega) (by rw [e5, c])] at h; exact h
        · rw [nI_1]; exact ih (by rw [e5, c])
      have mid : ∀ s1 : Int32, turn (w (12 + 5 * k)) 0 (w 0) (nI wr) (nI ph) 0 + s1 = turn (w (12 + 5 * k)) (w (13 + 5 * k)) (w 0) (nI wr) (nI ph) (nI lg) → P_Screw_isFit_60 post (P_Screw_isFit_22 post j) (nI wr) (nI lg) (nI ph) (nI k) (turn (w (12 + 5 * k)) 0 (w 0) (nI wr) (nI ph) 0) s1 M := by
        intro s1 q1 x6 e6
        rw [nI_clamp (by omega), hD.g2 hk8, e6]
        refine ⟨vin_nI (by omega) (by omega), s_C_turned hD hI ⟨vin_nI (by omega) (by omega), ?_⟩⟩
        rw [hD.g2d hk8]
        have h01 : w (15 + 5 * k) = 0 ∨ w (15 + 5 * k) = 1 := by
          have := hg.2.2.2.1
          unfold rg at this
          rcases (by omega : (w (15 + 5 * k)).toInt = 0 ∨ (w (15 + 5 * k)).toInt = 1) with q | q
          · left; rw [eqI]; exact q
          · right; rw [eqI]; exact q
        refine ⟨fun q => fin s1 0 q1 ?_, fun q => fin s1 (nI lg) q1 ?_⟩
        · rw [turn_add _ (w (15 + 5 * k)), q, if_neg (by decide)]
        · rw [turn_add _ (w (15 + 5 * k)), if_pos (h01.resolve_left q)]
      have h01 : w (13 + 5 * k) = 0 ∨ w (13 + 5 * k) = 1 := by
        have := hg.2.1
        unfold rg at this
        rcases (by omega : (w (13 + 5 * k)).toInt = 0 ∨ (w (13 + 5 * k)).toInt = 1) with q | q
        · left; rw [eqI]; exact q
        · right; rw [eqI]; exact q
      refine ⟨fun q => mid 0 ?_, fun q => mid (nI lg) ?_⟩
      · rw [turn_add _ (w (13 + 5 * k)), q, if_neg (by decide)]
      · rw [turn_add _ (w (13 + 5 * k)), if_pos (h01.resolve_left q)]
  obtain ⟨j, hj⟩ := key
  exact ⟨j, hj rfl⟩
theorem s_C_cand {post : Int32 → Mem → Prop} {w : Nat → Int32} {M : Mem} (hD : Dk 1 M w) (hI : WInv w) (h : post (nI (10 + 90 * nn (w 0))) M) : P_Screw_candidates post M := by
  unfold P_Screw_candidates
  rw [hD.per, hI.nP.1, ixI 10 90]
  exact h
theorem s_R_fits {post : Int32 → Mem → Prop} {w : Nat → Int32} {M : Mem} (hD : Dk 1 M w) (hI : WInv w) (h : post (nI (cntB (isJ w) (10 + 90 * nn (w 0)))) M) : P_R_fits post M := by
  have hP := hI.nP
  refine lpN (R := fun j n => P_Screw_countFits_4 (fun r1 M1 => post r1 M1) j (nI (cntB (isJ w) n)) (nI n) M) (N := 10 + 90 * nn (w 0)) (fun j => s_C_cand hD hI (brSt rfl h)) (fun j n hn ih => s_C_cand hD hI (brGo rfl (by omega) hn (s_C_isFit hD hI hn (b0n (fun c => ?_) (fun c => ?_)))))
  · have ec : cntB (isJ w) (n + 1) = cntB (isJ w) n := by simp [cntB, c]
    rw [ec, ← nI_1] at ih; exact ih
  · have ec : cntB (isJ w) (n + 1) = cntB (isJ w) n + 1 := by simp [cntB, c]
    rw [ec, ← nI_1, ← nI_1] at ih; exact ih
theorem s_R_fit {post : Int32 → Mem → Prop} {w : Nat → Int32} {i : Int32} {M : Mem} (hD : Dk 1 M w) (hI : WInv w) (h : post (if 0 ≤ i then fitR (isJ w) (vlJ (nn (w 0))) i (10 + 90 * nn (w 0)) else -1) M) : P_R_fit post i M := by
  have hP := hI.nP
  have hres : frF (fun j k => if isJ w j && decide (nI (cntB (isJ w) j) = i) then vlJ (nn (w 0)) j else k) (-1) (10 + 90 * nn (w 0)) 0 = if 0 ≤ i then fitR (isJ w) (vlJ (nn (w 0))) i (10 + 90 * nn (w 0)) else -1 := by
    by_cases h0 : 0 ≤ i
    · rw [if_pos h0]; unfold fitR; rw [if_pos h0]
    · rw [if_neg h0, frF_never]
      intro j _ hj
      funext k
      have h1 := cntB_le (isJ w) j
      rw [decide_eq_false (fun e => h0 (by rw [← e, show (0 : Int32) = nI 0 from rfl, nI_le_iff (by omega) (by omega)]; omega)), Bool.and_false]
      rfl
  rw [← hres] at h
  clear hres
  have hcb := cntB_le (isJ w)
  generalize hg : (fun j k => if isJ w j && decide (nI (cntB (isJ w) j) = i) then vlJ (nn (w 0)) j else k) = g at h
  have hgs : ∀ j k, g j k = if isJ w j && decide (nI (cntB (isJ w) j) = i) then vlJ (nn (w 0)) j else k := fun j k => by rw [← hg]
  generalize hr : frF g (-1) (10 + 90 * nn (w 0)) 0 = res at h
  have key : ∃ j, frF g (-1) (10 + 90 * nn (w 0) - 0) 0 = res → P_Screw_findFit_4 (fun r1 M1 => post r1 M1) j i (nI (cntB (isJ w) 0)) (nI 0) M := by
    refine lpN (R := fun j n => frF g (-1) (10 + 90 * nn (w 0) - n) n = res → P_Screw_findFit_4 (fun r1 M1 => post r1 M1) j i (nI (cntB (isJ w) n)) (nI n) M) (N := 10 + 90 * nn (w 0)) (fun j hr => s_C_cand hD hI (brSt rfl ?_)) (fun j n hn ih hr => s_C_cand hD hI (brGo rfl (by omega) hn (s_C_isFit hD hI hn ?_)))
    · rw [frF_end] at hr; rw [← hr] at h; exact h
    · rw [frF_step hn, hgs] at hr
      refine b0n (fun c => ?_) (fun c => ⟨fun c2 => ?_, fun c2 => ?_⟩)
      · rw [c] at hr
        have ih := ih hr
        have ec : cntB (isJ w) (n + 1) = cntB (isJ w) n := by simp [cntB, c]
        rw [ec, ← nI_1] at ih; exact ih
      · rw [c, decide_eq_false c2] at hr
        have ih := ih hr
        have ec : cntB (isJ w) (n + 1) = cntB (isJ w) n + 1 := by simp [cntB, c]
        rw [ec, ← nI_1, ← nI_1] at ih; exact ih
      · rw [c, decide_eq_true c2] at hr
        have hr : vlJ (nn (w 0)) n = res := hr
        refine s_C_wearOf hD hI (by omega) (s_C_lagOf hD hI (by omega) (s_C_phaseOf hD hI (by omega) ?_))
        rw [← hr] at h
        unfold vlJ at h
        rw [← nI_add, ← nI_add, ← pk_mul, ← pk_mul] at h
        exact h
  obtain ⟨j, hj⟩ := key
  exact ⟨j, hj hr⟩
