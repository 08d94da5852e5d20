/-! BITS of an Int32 -/
def gb (x : Int32) (e : Nat) : Bool := x.toBitVec.getLsbD e
theorem gb_and (x y : Int32) (e : Nat) : gb (x &&& y) e = (gb x e && gb y e) := by simp [gb, Int32.toBitVec_and, BitVec.getLsbD_and]
theorem gb_or (x y : Int32) (e : Nat) : gb (x ||| y) e = (gb x e || gb y e) := by simp [gb, Int32.toBitVec_or, BitVec.getLsbD_or]
theorem gb_xor (x y : Int32) (e : Nat) : gb (x ^^^ y) e = (gb x e ^^ gb y e) := by simp [gb, Int32.toBitVec_xor, BitVec.getLsbD_xor]
theorem gb_m1 {e : Nat} (h : e < 32) : gb (-1) e = true := by
  have : ∀ e : Fin 32, gb (-1) e.1 = true := by decide
  exact this ⟨e, h⟩
theorem gb_not (x : Int32) {e : Nat} (h : e < 32) : gb (x ^^^ (-1)) e = !gb x e := by rw [gb_xor, gb_m1 h]; cases gb x e <;> rfl
theorem gb_big (x : Int32) {e : Nat} (h : 32 ≤ e) : gb x e = false := BitVec.getLsbD_of_ge _ _ h
theorem gb_0 (e : Nat) : gb 0 e = false := by simp [gb]
theorem gb_ext {x y : Int32} (h : ∀ e, e < 32 → gb x e = gb y e) : x = y := by
  apply Int32.toBitVec_inj.mp
  apply BitVec.eq_of_getLsbD_eq
  intro i hi
  exact h i hi
theorem gb_eq0 {x : Int32} : x = 0 ↔ ∀ e, e < 32 → gb x e = false := by
  refine ⟨fun h e _ => by rw [h]; exact gb_0 e, fun h => gb_ext fun e he => by rw [h e he, gb_0]⟩
theorem gb_nI (n e : Nat) : gb (nI n) e = (decide (e < 32) && n.testBit e) := by
  show (BitVec.ofNat 32 n).getLsbD e = _
  rw [BitVec.getLsbD_ofNat]
theorem gb_shl {n e : Nat} (hn : n < 32) (he : e < 32) : gb ((1 : Int32) <<< (nI n &&& 31)) e = decide (e = n) := by
  have : ∀ n e : Fin 32, gb ((1 : Int32) <<< (nI n.1 &&& 31)) e.1 = decide (e.1 = n.1) := by decide +kernel
  exact this ⟨n, hn⟩ ⟨e, he⟩
theorem and1_gb (y : Int32) : y &&& 1 = 1 ↔ gb y 0 = true := by
  constructor
  · intro h
    have h2 : gb (y &&& 1) 0 = true := by rw [h]; decide
    rw [gb_and] at h2
    simp at h2; exact h2.1
  · intro h
    apply gb_ext
    intro e he
    rw [gb_and]
    have : ∀ e : Fin 32, gb 1 e.1 = decide (e.1 = 0) := by decide
    have h1 := this ⟨e, he⟩
    simp only at h1
    rw [h1]
    by_cases e0 : e = 0
    · subst e0; simp [h]
    · simp [e0]
theorem tb_gb {x : Int32} {e : Nat} (he : e < 32) : tb x e = gb x e := by
  have h1 : gb (x >>> (nI e &&& 31)) 0 = gb x e := by
    have h2 : (x >>> (nI e &&& 31)).toBitVec = x.toBitVec.sshiftRight e := by
      rw [Int32.toBitVec_shiftRight]
      have h3 : ((nI e &&& 31).toBitVec.smod 32#32) = BitVec.ofNat 32 e := by
        have : ∀ e : Fin 32, ((nI e.1 &&& 31).toBitVec.smod 32#32) = BitVec.ofNat 32 e.1 := by decide +kernel
        exact this ⟨e, he⟩
      show x.toBitVec.sshiftRight ((nI e &&& 31).toBitVec.smod 32#32).toNat = _
      rw [h3]
      congr 1
      rw [BitVec.toNat_ofNat]; omega
    unfold gb
    rw [h2, BitVec.getLsbD_sshiftRight]
    simp [he]
  cases hg : gb x e with
  | true => rw [hg] at h1; simp only [tb, decide_eq_true_eq]; exact (and1_gb _).mpr h1
  | false =>
    rw [hg] at h1
    simp only [tb, decide_eq_false_iff_not]
    intro h2
    rw [(and1_gb _).mp h2] at h1; cases h1
theorem bitF_gb (p : Nat → Bool) : ∀ n, n ≤ 32 → ∀ e, e < 32 → gb (bitF p n) e = (decide (e < n) && p e)
  | 0, _, e, _ => by simp [bitF, gb_0]
  | n + 1, h, e, he => by
    have ih := bitF_gb p n (by omega) e he
    simp only [bitF]
    by_cases hp : p n = true
    · rw [if_pos hp, gb_or, ih, gb_shl (by omega) he]
      by_cases e1 : e = n
      · subst e1; simp [hp]
      · by_cases e2 : e < n
        · simp [e2, e1]; intro; omega
        · simp [e2, e1]; intro; omega
    · rw [if_neg hp, ih]
      by_cases e1 : e = n
      · subst e1; simp at hp; simp [hp]
      · by_cases e2 : e < n
        · simp [e2]; intro; omega
        · simp [e2]; intro; omega
theorem bitF_congr {p q : Nat → Bool} : ∀ {n : Nat}, (∀ x, x < n → p x = q x) → bitF p n = bitF q n
  | 0, _ => rfl
  | n + 1, h => by simp only [bitF, bitF_congr (n := n) (fun x hx => h x (by omega)), h n (by omega)]
theorem bitF_0 {p : Nat → Bool} {n : Nat} (hn : n ≤ 32) : bitF p n = 0 ↔ ∀ x, x < n → p x = false := by
  constructor
  · intro h x hx
    have h1 := bitF_gb p n hn x (by omega)
    rw [h, gb_0] at h1
    simpa [hx] using h1.symm
  · intro h
    rw [gb_eq0]
    intro e he
    rw [bitF_gb p n hn e he]
    by_cases e1 : e < n
    · simp [h e e1]
    · simp [e1]
theorem nI_and (a b : Nat) : nI a &&& nI b = nI (a &&& b) := by
  apply gb_ext
  intro e he
  rw [gb_and, gb_nI, gb_nI, gb_nI, Nat.testBit_and]
  simp [he]
