/-! THE SIGNS OF A TEXT: t its bytes, L their number -/
def rnF (p : Nat → Bool) : Nat → Nat → Nat
  | 0, i => i
  | n + 1, i => if p i then rnF p n (i + 1) else i
/-- the first place from i on, below L, where p doesn't hold; L if there is none -/
def rn (p : Nat → Bool) (L i : Nat) : Nat := rnF p (L - i) i
section RUN
variable {p : Nat → Bool} {L i : Nat}
theorem rn_go (h : i < L) (hp : p i = true) : rn p L i = rn p L (i + 1) := by
  unfold rn
  rw [show L - i = (L - (i + 1)) + 1 by omega]
  show (if p i = true then rnF p (L - (i + 1)) (i + 1) else i) = _
  rw [if_pos hp]
theorem rn_stop (h : ¬ (i < L ∧ p i = true)) : rn p L i = i := by
  unfold rn
  by_cases hL : i < L
  · rw [show L - i = (L - (i + 1)) + 1 by omega]
    show (if p i = true then rnF p (L - (i + 1)) (i + 1) else i) = _
    rw [if_neg (fun e => h ⟨hL, e⟩)]
  · rw [show L - i = 0 by omega]; rfl
theorem rn_prop : ∀ (d i : Nat), i + d = L → i ≤ rn p L i ∧ rn p L i ≤ L ∧ (rn p L i < L → p (rn p L i) = false) ∧ ∀ j, i ≤ j → j < rn p L i → p j = true
  | 0, i, h => by
    rw [rn_stop (fun e => by omega)]
    exact ⟨by omega, by omega, fun e => by omega, fun j h1 h2 => by omega⟩
  | d + 1, i, h => by
    by_cases hp : p i = true
    · rw [rn_go (by omega) hp]
      have h1 := rn_prop d (i + 1) (by omega)
      refine ⟨by omega, h1.2.1, h1.2.2.1, fun j h2 h3 => ?_⟩
      by_cases e : j = i
      · rw [e]; exact hp
      · exact h1.2.2.2 j (by omega) h3
    · rw [rn_stop (fun e => hp e.2)]
      exact ⟨by omega, by omega, fun _ => by simpa using hp, fun j h1 h2 => by omega⟩
theorem rn_ge (h : i ≤ L) : i ≤ rn p L i := (rn_prop (L - i) i (by omega)).1
theorem rn_le (h : i ≤ L) : rn p L i ≤ L := (rn_prop (L - i) i (by omega)).2.1
theorem rn_at (h : i ≤ L) (h2 : rn p L i < L) : p (rn p L i) = false := (rn_prop (L - i) i (by omega)).2.2.1 h2
theorem rn_in (h : i ≤ L) {j : Nat} (h1 : i ≤ j) (h2 : j < rn p L i) : p j = true := (rn_prop (L - i) i (by omega)).2.2.2 j h1 h2
theorem rn_idem (h : i ≤ L) : rn p L (rn p L i) = rn p L i := rn_stop (fun e => by have := rn_at h e.1; rw [this] at e; cases e.2)
end RUN
def isSp (t : Nat → Int32) (i : Nat) : Bool := inb (t i) 32 32
def isLe (t : Nat → Int32) (i : Nat) : Bool := inb (t i) 97 122
def isDg (t : Nat → Int32) (i : Nat) : Bool := inb (t i) 48 57
def tE (t : Nat → Int32) (L b : Nat) : Nat := if isLe t b then rn (isLe t) L b else if isDg t b then rn (isDg t) L b else b + 1
def nxT (t : Nat → Int32) (L b : Nat) : Nat := rn (isSp t) L (tE t L b)
def wd (t : Nat → Int32) (b e : Nat) : List Int32 := (List.range (e - b)).map (fun n => t (b + n))
def wB (i : Nat) : List Int32 := WB.getD i []
def wK (l : List Int32) : Nat := if l = wB 0 then 13 else if l = wB 1 then 12 else if l = wB 2 then 8 else if l = wB 3 then 6 else if l = wB 4 then 7 else if l = wB 5 then 1 else if l = wB 6 then 2 else if l = wB 7 then 3 else if l = wB 8 then 4 else if l = wB 9 then 5 else 16
/-- the value of k digits from b on -/
def dvF (t : Nat → Int32) (b : Nat) : Nat → Nat
  | 0 => 0
  | k + 1 => 10 * dvF t b k + ((t (b + k)).toInt - 48).toNat
def chK (c : Int32) : Nat := if c = 40 then 14 else if c = 41 then 15 else if c = 43 then 9 else if c = 60 then 10 else if c = 62 then 11 else 16
def kdT (t : Nat → Int32) (L b : Nat) : Nat := if b < L then (if isLe t b then wK (wd t b (tE t L b)) else if isDg t b then (if 4 < tE t L b - b then 16 else 32 * dvF t b (tE t L b - b)) else chK (t b)) else 17
section SIGNS
variable {t : Nat → Int32} {L b : Nat}
theorem Le_not_Dg {i : Nat} (h : isLe t i = true) : isDg t i = false := by
  simp only [isLe, isDg, inb, decide_eq_true_eq, decide_eq_false_iff_not, leI] at *
  have h1 : (97 : Int32).toInt = 97 := rfl
  have h2 : (57 : Int32).toInt = 57 := rfl
  omega
theorem Le_not_Sp {i : Nat} (h : isLe t i = true) : isSp t i = false := by
  simp only [isLe, isSp, inb, decide_eq_true_eq, decide_eq_false_iff_not, leI] at *
  have h1 : (97 : Int32).toInt = 97 := rfl
  have h2 : (32 : Int32).toInt = 32 := rfl
  omega
theorem tE_bd (h : b < L) : b < tE t L b ∧ tE t L b ≤ L := by
  unfold tE
  split
  · rename_i e
    rw [rn_go h e]
    exact ⟨rn_ge (by omega), rn_le (by omega)⟩
  · split
    · rename_i e
      rw [rn_go h e]
      exact ⟨rn_ge (by omega), rn_le (by omega)⟩
    · omega
theorem nxT_bd (h : b < L) : b < nxT t L b ∧ nxT t L b ≤ L := by
  have h1 := tE_bd (t := t) h
  have h2 := rn_ge (p := isSp t) h1.2
  exact ⟨by unfold nxT; omega, rn_le h1.2⟩
theorem dv_bd (h : ∀ j, j < L → isDg t (b + j) = true) : ∀ k, k ≤ L → dvF t b k < 10 ^ k
  | 0, _ => by simp [dvF]
  | k + 1, hk => by
    have h1 := dv_bd h k (by omega)
    have h2 := h k (by omega)
    simp only [isDg, inb, decide_eq_true_eq, leI] at h2
    have e1 : (48 : Int32).toInt = 48 := rfl
    have e2 : (57 : Int32).toInt = 57 := rfl
    have e3 : 10 ^ (k + 1) = 10 ^ k * 10 := Nat.pow_succ ..
    simp only [dvF]
    omega
theorem wK_lt (l : List Int32) : wK l < 17 := by unfold wK; repeat' split
                                                 all_goals omega
theorem chK_lt (c : Int32) : chK c < 17 := by unfold chK; repeat' split
                                              all_goals omega
/-- the value of a number's digits -/
theorem dv_tok (hb : b < L) (hl : isLe t b = false) (hd : isDg t b = true) (h4 : tE t L b - b ≤ 4) : dvF t b (tE t L b - b) ≤ 9999 := by
  have e : tE t L b = rn (isDg t) L b := by unfold tE; rw [hl, hd]; rfl
  have h1 := dv_bd (t := t) (b := b) (L := tE t L b - b) (fun j hj => rn_in (p := isDg t) (L := L) (i := b) (by omega) (by omega) (by rw [← e]; omega)) _ (Nat.le_refl _)
  have h2 : 10 ^ (tE t L b - b) ≤ 10 ^ 4 := Nat.pow_le_pow_right (by omega) h4
  have : (10 : Nat) ^ 4 = 10000 := by decide
  omega
theorem kdT_ts (hL : L ≤ 400) : TS L (kdT t L) (nxT t L) := by
  refine ⟨hL, fun b => ?_, fun b hb => ?_, fun b hb => nxT_bd hb⟩
  · unfold kdT
    split
    · rename_i hb
      split
      · have := wK_lt (wd t b (tE t L b)); omega
      · rename_i hl
        split
        · rename_i hd
          split
          · omega
          · rename_i h4
            have := dv_tok hb (by simpa using hl) hd (by omega)
            right; omega
        · have := chK_lt (t b); omega
    · omega
  · unfold kdT
    split
    · rename_i hbL
      have h1 : ∀ x : Nat, x ≠ 17 → (x = 17 ↔ b = L) := fun x hx => ⟨fun e => absurd e hx, fun e => by omega⟩
      apply h1
      split
      · have := wK_lt (wd t b (tE t L b)); omega
      · split
        · split <;> omega
        · have := chK_lt (t b); omega
    · exact ⟨fun _ => by omega, fun _ => rfl⟩
/-- which sign stands there -/
theorem kd_ch {c : Int32} {k : Nat} (hb : b ≤ L) (hk : (c, k) = (40, 14) ∨ (c, k) = (41, 15) ∨ (c, k) = (43, 9) ∨ (c, k) = (60, 10) ∨ (c, k) = (62, 11)) : (b < L ∧ t b = c) ↔ kdT t L b = k := by
  have hbad : ∀ d : Int32, d = c → inb d 97 122 = false ∧ inb d 48 57 = false ∧ chK d = k := by
    intro d hd
    subst hd
    rcases hk with h | h | h | h | h <;> (cases h; decide)
  have hne : ∀ d : Int32, chK d = k → d = c := by
    intro d hd
    unfold chK at hd
    rcases hk with h | h | h | h | h <;> (cases h; revert hd; repeat' split
                                          all_goals (intro hd; first | assumption | (exfalso; revert hd; decide)))
  have hw : ∀ l, wK l ≠ k := by
    intro l
    unfold wK
    rcases hk with h | h | h | h | h <;> (cases h; repeat' split
                                          all_goals decide)
  have hk17 : k ≠ 17 ∧ k ≠ 16 ∧ k % 32 ≠ 0 := by rcases hk with h | h | h | h | h <;> (cases h; decide)
  constructor
  · intro ⟨h1, h2⟩
    obtain ⟨b1, b2, b3⟩ := hbad _ h2
    unfold kdT
    rw [if_pos h1]
    have e1 : isLe t b = false := b1
    have e2 : isDg t b = false := b2
    rw [e1, e2]
    exact b3
  · intro h
    unfold kdT at h
    split at h
    · rename_i h1
      refine ⟨h1, ?_⟩
      split at h
      · exact absurd h (hw _)
      · split at h
        · split at h
          · exact absurd h.symm hk17.2.1
          · exfalso; apply hk17.2.2; omega
        · exact hne _ h
    · exact absurd h.symm hk17.1
theorem ch_end {c : Int32} (hb : b < L) (hc : t b = c) (h1 : inb c 97 122 = false) (h2 : inb c 48 57 = false) : tE t L b = b + 1 := by
  unfold tE
  have e1 : isLe t b = false := by unfold isLe; rw [hc]; exact h1
  have e2 : isDg t b = false := by unfold isDg; rw [hc]; exact h2
  rw [e1, e2]; rfl
/-- the words: their numbers -/
def wN (i : Nat) : Nat := [13, 12, 8, 6, 7, 1, 2, 3, 4, 5].getD i 16
theorem wK_iff {l : List Int32} {i : Nat} (hi : i < 10) : wK l = wN i ↔ l = wB i := by
  have hu : ∀ i : Fin 10, wK (wB i.1) = wN i.1 := by decide +kernel
  constructor
  · intro h
    unfold wK at h
    rcases (by omega : i = 0 ∨ i = 1 ∨ i = 2 ∨ i = 3 ∨ i = 4 ∨ i = 5 ∨ i = 6 ∨ i = 7 ∨ i = 8 ∨ i = 9) with rfl | rfl | rfl | rfl | rfl | rfl | rfl | rfl | rfl | rfl <;>
      (revert h; repeat' split
       all_goals (intro h; first | assumption | (exfalso; revert h; decide)))
  · intro h; rw [h]; exact hu ⟨i, hi⟩
theorem wB_len {i : Nat} (hi : i < 10) : 2 ≤ (wB i).length ∧ (wB i).length ≤ 8 := by
  have : ∀ i : Fin 10, 2 ≤ (wB i.1).length ∧ (wB i.1).length ≤ 8 := by decide
  exact this ⟨i, hi⟩
/-- the word i stands there -/
def isW (t : Nat → Int32) (L b i : Nat) : Bool := decide (wd t b (rn (isLe t) L b) = wB i)
theorem wd_nil {e : Nat} (h : e ≤ b) : wd t b e = [] := by unfold wd; rw [show e - b = 0 by omega]; rfl
theorem kd_w {i : Nat} (hb : b ≤ L) (hi : i < 10) : isW t L b i = true ↔ kdT t L b = wN i := by
  have hlen := wB_len hi
  have hN : wN i ≠ 17 ∧ wN i ≠ 16 ∧ 0 < wN i ∧ wN i < 14 ∧ wN i ≠ 9 ∧ wN i ≠ 10 ∧ wN i ≠ 11 := by
    have : ∀ i : Fin 10, wN i.1 ≠ 17 ∧ wN i.1 ≠ 16 ∧ 0 < wN i.1 ∧ wN i.1 < 14 ∧ wN i.1 ≠ 9 ∧ wN i.1 ≠ 10 ∧ wN i.1 ≠ 11 := by decide
    exact this ⟨i, hi⟩
  unfold isW
  rw [decide_eq_true_eq]
  constructor
  · intro h
    have h1 : b < L ∧ isLe t b = true := by
      by_cases hc : b < L ∧ isLe t b = true
      · exact hc
      · rw [rn_stop hc, wd_nil (Nat.le_refl _)] at h
        rw [← h] at hlen; simp at hlen
    unfold kdT
    rw [if_pos h1.1, h1.2]
    have e : tE t L b = rn (isLe t) L b := by unfold tE; rw [h1.2]; rfl
    show wK (wd t b (tE t L b)) = wN i
    rw [e, wK_iff hi]; exact h
  · intro h
    unfold kdT at h
    split at h
    · split at h
      · rename_i h1 h2
        have e : tE t L b = rn (isLe t) L b := by unfold tE; rw [h2]; rfl
        rw [e, wK_iff hi] at h; exact h
      · split at h
        · split at h
          · exact absurd h.symm hN.2.1
          · exfalso; omega
        · exfalso
          unfold chK at h
          split at h
          · omega
          · split at h
            · omega
            · split at h
              · exact hN.2.2.2.2.1 h.symm
              · split at h
                · exact hN.2.2.2.2.2.1 h.symm
                · split at h
                  · exact hN.2.2.2.2.2.2 h.symm
                  · exact hN.2.1 h.symm
    · exact absurd h.symm hN.1
theorem w_end {i : Nat} (hb : b ≤ L) (hi : i < 10) (h : isW t L b i = true) : b < L ∧ tE t L b = rn (isLe t) L b := by
  have hlen := wB_len hi
  unfold isW at h
  rw [decide_eq_true_eq] at h
  have h1 : b < L ∧ isLe t b = true := by
    by_cases hc : b < L ∧ isLe t b = true
    · exact hc
    · rw [rn_stop hc, wd_nil (Nat.le_refl _)] at h
      rw [← h] at hlen; simp at hlen
  exact ⟨h1.1, by unfold tE; rw [h1.2]; rfl⟩
theorem wd_iff {e : Nat} {l : List Int32} : wd t b e = l ↔ e - b = l.length ∧ ∀ n, n < l.length → t (b + n) = l.getD n 0 := by
  unfold wd
  constructor
  · intro h
    have h1 : e - b = l.length := by rw [← h]; simp
    refine ⟨h1, fun n hn => ?_⟩
    rw [← h, List.getD_eq_getElem?_getD, List.getElem?_map, List.getElem?_range (by omega)]
    rfl
  · intro ⟨h1, h2⟩
    apply List.ext_getElem?
    intro n
    rw [List.getElem?_map]
    by_cases hn : n < l.length
    · rw [List.getElem?_range (by omega)]
      have := h2 n hn
      rw [List.getD_eq_getElem?_getD, List.getElem?_eq_getElem hn] at this
      rw [List.getElem?_eq_getElem hn]
      show some (t (b + n)) = _
      rw [this]; rfl
    · rw [List.getElem?_eq_none (by simp; omega), List.getElem?_eq_none (by omega)]; rfl
end SIGNS
