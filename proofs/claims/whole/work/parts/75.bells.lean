/-! THE CLASS: bits counted; chances -/
theorem and_split {a b c d : Nat} (hb : b < 256) (hd : d < 256) : (b + 256 * a) &&& (d + 256 * c) = (b &&& d) + 256 * (a &&& c) := by
  have hbd : b &&& d < 2 ^ 8 := Nat.lt_of_le_of_lt Nat.and_le_left hb
  apply Nat.eq_of_testBit_eq
  intro i
  rw [Nat.testBit_and, Nat.add_comm b, Nat.add_comm d, Nat.add_comm (b &&& d), show (256 : Nat) = 2 ^ 8 from rfl, Nat.testBit_two_pow_mul_add _ hb, Nat.testBit_two_pow_mul_add _ hd, Nat.testBit_two_pow_mul_add _ hbd]
  by_cases h : i < 8
  · rw [if_pos h, if_pos h, if_pos h, Nat.testBit_and]
  · rw [if_neg h, if_neg h, if_neg h, Nat.testBit_and]
theorem gb_ush {m k e : Nat} (hk : k < 32) : gb (ush (nI m) (nI k)) e = gb (nI m) (k + e) := by
  have h1 : (ush (nI m) (nI k)).toBitVec = (nI m).toBitVec >>> (BitVec.ofNat 32 k) := by
    have h3 : ((nI k).toUInt32 &&& Int32.toUInt32 31).toBitVec % 32#32 = BitVec.ofNat 32 k := by
      have : ∀ k : Fin 32, ((nI k.1).toUInt32 &&& Int32.toUInt32 31).toBitVec % 32#32 = BitVec.ofNat 32 k.1 := by decide +kernel
      exact this ⟨k, hk⟩
    show (nI m).toBitVec >>> (((nI k).toUInt32 &&& Int32.toUInt32 31).toBitVec % 32#32) = _
    rw [h3]
  unfold gb
  rw [h1, BitVec.ushiftRight_eq', BitVec.getLsbD_ushiftRight, BitVec.toNat_ofNat]
  congr 1
  omega
theorem ush_nI {m k : Nat} (hm : m < 4294967296) (hk : k < 32) : ush (nI m) (nI k) = nI (m >>> k) := by
  apply gb_ext
  intro e he
  rw [gb_ush hk, gb_nI, gb_nI, Nat.testBit_shiftRight, decide_eq_true he, Bool.true_and]
  by_cases h : k + e < 32
  · rw [decide_eq_true h, Bool.true_and]
  · rw [decide_eq_false h, Bool.false_and]
    symm
    refine Nat.testBit_lt_two_pow (Nat.lt_of_lt_of_le hm ?_)
    have : (2 : Nat) ^ 32 ≤ 2 ^ (k + e) := Nat.pow_le_pow_right (by omega) (by omega)
    omega
theorem nI_sub {a b : Nat} (h : b ≤ a) : nI a - nI b = nI (a - b) := by rw [nI_I, nI_I, nI_I, I_sub]; congr 1; omega
/-- the bits of a byte -/
def pb8 (b : Nat) : Nat := cntB (fun i => b.testBit i) 8
def g1B (b : Nat) : Nat := b - ((b / 2) &&& 85)
def g2B (b : Nat) : Nat := (b &&& 51) + ((b / 4) &&& 51)
theorem g1_all : ∀ b : Fin 256, ∀ c : Fin 2, ((b.1 / 2 + 128 * c.1) &&& 85) = ((b.1 / 2) &&& 85) ∧ ((b.1 / 2) &&& 85) ≤ b.1 := by decide +kernel
theorem g2_all : ∀ b : Fin 256, ∀ c : Fin 4, ((b.1 / 4 + 64 * c.1) &&& 51) = ((b.1 / 4) &&& 51) ∧ (b.1 &&& 51) ≤ 51 ∧ ((b.1 / 4) &&& 51) ≤ 51 := by decide +kernel
theorem g3_all : ∀ b : Fin 256, g2B (g1B b.1) ≤ 68 ∧ g1B b.1 < 256 ∧ g2B (g1B b.1) % 16 ≤ 4 ∧ ((g2B (g1B b.1) + g2B (g1B b.1) / 16) &&& 15) = pb8 b.1 ∧ pb8 b.1 ≤ 8 := by decide +kernel
theorem g4_all : ∀ b : Fin 256, ∀ c : Fin 5, g2B (g1B b.1) + g2B (g1B b.1) / 16 + 16 * c.1 < 256 ∧ ((g2B (g1B b.1) + g2B (g1B b.1) / 16 + 16 * c.1) &&& 15) = pb8 b.1 := by decide +kernel
def by4 (b0 b1 b2 b3 : Nat) : Nat := b0 + 256 * (b1 + 256 * (b2 + 256 * b3))
theorem and_by4 {b0 b1 b2 b3 m : Nat} (h0 : b0 < 256) (h1 : b1 < 256) (h2 : b2 < 256) (hm : m < 256) : by4 b0 b1 b2 b3 &&& by4 m m m m = by4 (b0 &&& m) (b1 &&& m) (b2 &&& m) (b3 &&& m) := by
  unfold by4
  rw [and_split h0 hm, and_split h1 hm, and_split h2 hm]
theorem bcF_by4 {b0 b1 b2 b3 : Nat} (h0 : b0 < 256) (h1 : b1 < 256) (h2 : b2 < 256) (h3 : b3 < 128) : bcF (nI (by4 b0 b1 b2 b3)) = nI (pb8 b0 + pb8 b1 + pb8 b2 + pb8 b3) := by
  have a0 := g3_all ⟨b0, h0⟩
  have a1 := g3_all ⟨b1, h1⟩
  have a2 := g3_all ⟨b2, h2⟩
  have a3 := g3_all ⟨b3, by omega⟩
  simp only [] at a0 a1 a2 a3
  have s1 : bc1 (nI (by4 b0 b1 b2 b3)) = nI (by4 (g1B b0) (g1B b1) (g1B b2) (g1B b3)) := by
    have c0 := g1_all ⟨b0, h0⟩ ⟨b1 % 2, by omega⟩
    have c1 := g1_all ⟨b1, h1⟩ ⟨b2 % 2, by omega⟩
    have c2 := g1_all ⟨b2, h2⟩ ⟨b3 % 2, by omega⟩
    have c3 := g1_all ⟨b3, by omega⟩ ⟨0, by omega⟩
    simp only [] at c0 c1 c2 c3
    have e1 : by4 b0 b1 b2 b3 >>> 1 = by4 (b0 / 2 + 128 * (b1 % 2)) (b1 / 2 + 128 * (b2 % 2)) (b2 / 2 + 128 * (b3 % 2)) (b3 / 2) := by
      rw [Nat.shiftRight_eq_div_pow]; unfold by4; omega
    unfold bc1
    rw [show (1 : Int32) = nI 1 from rfl, ush_nI (by unfold by4; omega) (by omega), e1, show (1431655765 : Int32) = nI (by4 85 85 85 85) from rfl, nI_and, and_by4 (by omega) (by omega) (by omega) (by omega), c0.1, c1.1, c2.1, nI_sub (by unfold by4; omega)]
    congr 1
    unfold by4 g1B
    omega
  have s2 : bc2 (nI (by4 (g1B b0) (g1B b1) (g1B b2) (g1B b3))) = nI (by4 (g2B (g1B b0)) (g2B (g1B b1)) (g2B (g1B b2)) (g2B (g1B b3))) := by
    generalize g1B b0 = y0 at *
    generalize g1B b1 = y1 at *
    generalize g1B b2 = y2 at *
    generalize g1B b3 = y3 at *
    have c0 := g2_all ⟨y0, a0.2.1⟩ ⟨y1 % 4, by omega⟩
    have c1 := g2_all ⟨y1, a1.2.1⟩ ⟨y2 % 4, by omega⟩
    have c2 := g2_all ⟨y2, a2.2.1⟩ ⟨y3 % 4, by omega⟩
    have c3 := g2_all ⟨y3, a3.2.1⟩ ⟨0, by omega⟩
    simp only [] at c0 c1 c2 c3
    have e1 : by4 y0 y1 y2 y3 >>> 2 = by4 (y0 / 4 + 64 * (y1 % 4)) (y1 / 4 + 64 * (y2 % 4)) (y2 / 4 + 64 * (y3 % 4)) (y3 / 4) := by
      rw [Nat.shiftRight_eq_div_pow]; unfold by4; omega
    unfold bc2
    rw [show (2 : Int32) = nI 2 from rfl, ush_nI (by unfold by4; omega) (by omega), e1, show (858993459 : Int32) = nI (by4 51 51 51 51) from rfl, nI_and, nI_and, and_by4 (by omega) (by omega) (by omega) (by omega), and_by4 (by omega) (by omega) (by omega) (by omega), c0.1, c1.1, c2.1, nI_add]
    congr 1
    unfold by4 g2B
    omega
  have s3 : bc3 (nI (by4 (g2B (g1B b0)) (g2B (g1B b1)) (g2B (g1B b2)) (g2B (g1B b3)))) = nI (by4 (pb8 b0) (pb8 b1) (pb8 b2) (pb8 b3)) := by
    have c0 := g4_all ⟨b0, h0⟩ ⟨g2B (g1B b1) % 16, by omega⟩
    have c1 := g4_all ⟨b1, h1⟩ ⟨g2B (g1B b2) % 16, by omega⟩
    have c2 := g4_all ⟨b2, h2⟩ ⟨g2B (g1B b3) % 16, by omega⟩
    have c3 := g4_all ⟨b3, by omega⟩ ⟨0, by omega⟩
    simp only [] at c0 c1 c2 c3
    rw [Nat.mul_zero, Nat.add_zero] at c3
    generalize g2B (g1B b0) = z0 at *
    generalize g2B (g1B b1) = z1 at *
    generalize g2B (g1B b2) = z2 at *
    generalize g2B (g1B b3) = z3 at *
    have e1 : by4 z0 z1 z2 z3 + by4 z0 z1 z2 z3 >>> 4 = by4 (z0 + z0 / 16 + 16 * (z1 % 16)) (z1 + z1 / 16 + 16 * (z2 % 16)) (z2 + z2 / 16 + 16 * (z3 % 16)) (z3 + z3 / 16) := by
      rw [Nat.shiftRight_eq_div_pow]; unfold by4; omega
    unfold bc3
    rw [show (4 : Int32) = nI 4 from rfl, ush_nI (by unfold by4; omega) (by omega), nI_add, e1, show (252645135 : Int32) = nI (by4 15 15 15 15) from rfl, nI_and, and_by4 c0.1 c1.1 c2.1 (by omega), c0.2, c1.2, c2.2, c3.2]
  unfold bcF
  rw [s1, s2, s3]
  have p0 := a0.2.2.2.2
  have p1 := a1.2.2.2.2
  have p2 := a2.2.2.2.2
  have p3 := a3.2.2.2.2
  clear a0 a1 a2 a3 s1 s2 s3
  generalize pb8 b0 = z0 at *
  generalize pb8 b1 = z1 at *
  generalize pb8 b2 = z2 at *
  generalize pb8 b3 = z3 at *
  unfold bc4
  rw [show (8 : Int32) = nI 8 from rfl, ush_nI (by unfold by4; omega) (by omega), nI_add, Nat.shiftRight_eq_div_pow]
  unfold bc5
  rw [show (16 : Int32) = nI 16 from rfl, ush_nI (by unfold by4; omega) (by omega), nI_add, Nat.shiftRight_eq_div_pow, show (63 : Int32) = nI (2 ^ 6 - 1) from rfl, nI_and, Nat.and_two_pow_sub_one_eq_mod]
  congr 1
  have d1 : by4 z0 z1 z2 z3 / 2 ^ 8 = z1 + 256 * (z2 + 256 * z3) := by unfold by4; omega
  have d2 : (by4 z0 z1 z2 z3 + (z1 + 256 * (z2 + 256 * z3))) / 2 ^ 16 = z2 + z3 + 256 * z3 := by unfold by4; omega
  rw [d1, d2]
  unfold by4
  omega
theorem cntB_add {p : Nat → Bool} {a : Nat} : ∀ b, cntB p (a + b) = cntB p a + cntB (fun i => p (a + i)) b
  | 0 => rfl
  | b + 1 => by
    have ih := cntB_add (p := p) (a := a) b
    show cntB p (a + b) + _ = _
    rw [ih]
    simp only [cntB, Nat.add_assoc]
    rfl
theorem bcF_nI {x : Nat} (hx : x < 2147483648) : bcF (nI x) = nI (cntB (fun i => x.testBit i) 32) := by
  have h := bcF_by4 (b0 := x % 256) (b1 := x / 256 % 256) (b2 := x / 65536 % 256) (b3 := x / 16777216) (by omega) (by omega) (by omega) (by omega)
  have e1 : by4 (x % 256) (x / 256 % 256) (x / 65536 % 256) (x / 16777216) = x := by unfold by4; omega
  rw [e1] at h
  rw [h]
  congr 1
  have hb : ∀ k, ∀ i, i < 8 → (x / 2 ^ k % 256).testBit i = x.testBit (k + i) := by
    intro k i hi
    rw [show (256 : Nat) = 2 ^ 8 from rfl, Nat.testBit_mod_two_pow, decide_eq_true hi, Bool.true_and, Nat.testBit_div_two_pow, Nat.add_comm]
  have c0 : pb8 (x % 256) = cntB (fun i => x.testBit i) 8 := cntB_congr (fun i hi => by have := hb 0 i hi; rw [Nat.pow_zero, Nat.div_one, Nat.zero_add] at this; exact this)
  have c1 : pb8 (x / 256 % 256) = cntB (fun i => x.testBit (8 + i)) 8 := cntB_congr (fun i hi => hb 8 i hi)
  have c2 : pb8 (x / 65536 % 256) = cntB (fun i => x.testBit (16 + i)) 8 := cntB_congr (fun i hi => hb 16 i hi)
  have c3 : pb8 (x / 16777216) = cntB (fun i => x.testBit (24 + i)) 8 := cntB_congr (fun i hi => by
    have := hb 24 i hi
    rw [show x / 2 ^ 24 % 256 = x / 16777216 by omega] at this
    exact this)
  rw [c0, c1, c2, c3, show (32 : Nat) = 24 + 8 from rfl, cntB_add, show (24 : Nat) = 16 + 8 from rfl, cntB_add, show (16 : Nat) = 8 + 8 from rfl, cntB_add]
theorem bitF_nat (p : Nat → Bool) : ∀ n, n ≤ 31 → ∃ x, x < 2 ^ n ∧ bitF p n = nI x
  | 0, _ => ⟨0, by decide, rfl⟩
  | n + 1, h => by
    obtain ⟨x, hx, ex⟩ := bitF_nat p n (by omega)
    simp only [bitF]
    by_cases hp : p n = true
    · rw [if_pos hp, ex, shl_pow (by omega), nI_or]
      refine ⟨x ||| 2 ^ n, ?_, rfl⟩
      exact Nat.or_lt_two_pow (Nat.lt_trans hx (Nat.pow_lt_pow_right (by omega) (by omega))) (Nat.pow_lt_pow_right (by omega) (by omega))
    · rw [if_neg hp, ex]
      exact ⟨x, Nat.lt_trans hx (Nat.pow_lt_pow_right (by omega) (by omega)), rfl⟩
/-- the JDK counts the bits of a mask -/
theorem bcF_bitF {p : Nat → Bool} {n : Nat} (hn : n ≤ 31) : bcF (bitF p n) = nI (cntB p n) := by
  obtain ⟨x, hx, ex⟩ := bitF_nat p n hn
  have hx2 : x < 2147483648 := Nat.lt_of_lt_of_le hx (Nat.pow_le_pow_right (by omega) hn)
  have hb : ∀ e, e < 32 → x.testBit e = (decide (e < n) && p e) := fun e he => by
    have h1 := bitF_gb p n (by omega) e he
    rw [ex, gb_nI, decide_eq_true he, Bool.true_and] at h1
    exact h1
  rw [ex, bcF_nI hx2]
  congr 1
  have e2 : (32 : Nat) = n + (32 - n) := by omega
  rw [e2, cntB_add]
  have z : cntB (fun i => x.testBit (n + i)) (32 - n) = 0 := by
    rw [cntB_0, anyB_f]
    intro i hi
    rw [hb (n + i) (by omega), decide_eq_false (by omega)]; rfl
  rw [z, Nat.add_zero]
  exact cntB_congr (fun i hi => by rw [hb i (by omega), decide_eq_true hi, Bool.true_and])
/-! a common part -/
theorem s_C_common15 {post : Int32 → Mem → Prop} {M : Mem} : ∀ (k b a i : Nat), b < 2 ^ k → b < a → a < 2147483648 → i + 2 * k ≤ 63 → post (nI (Nat.gcd a b)) M → ∃ j, P_Bells_commonPart_15 post j (nI a) (nI b) (nI i) M := by
  have stop : ∀ (a i : Nat), i ≤ 63 → post (nI a) M → ∃ j, P_Bells_commonPart_15 post j (nI a) (nI 0) (nI i) M := by
    intro a i hi h
    refine ⟨1, fun c => h, fun _ => ⟨fun _ => h, fun c => absurd rfl c⟩⟩
  have one : ∀ (a b i : Nat), 0 < b → b < a → a < 2147483648 → i ≤ 63 → (∃ j, P_Bells_commonPart_15 post j (nI b) (nI (a % b)) (nI (i + 1)) M) → ∃ j, P_Bells_commonPart_15 post j (nI a) (nI b) (nI i) M := by
    intro a b i hb hba ha hi ⟨j, hj⟩
    refine ⟨j + 1, fun c => ?_, fun _ => ⟨fun c => ?_, fun c => ⟨c, fun x5 e5 => ?_⟩⟩⟩
    · rw [lit_nI 64, nI_le_iff (by omega) (by omega)] at c; omega
    · rw [show (0 : Int32) = nI 0 from rfl, nI_eq (by omega) (by omega)] at c; omega
    · have e6 : irm (nI a) (nI b) = nI (a % b) := by rw [nI_I, nI_I, I_rem (by omega) (by omega), nI_I]; rfl
      rw [e5, e6, nI_1]; exact hj
  have g1 : ∀ a b : Nat, Nat.gcd a b = Nat.gcd b (a % b) := fun a b => by rw [Nat.gcd_comm a b, Nat.gcd_rec, Nat.gcd_comm]
  intro k
  induction k with
  | zero =>
    intro b a i hb hba ha hi h
    have : b = 0 := by omega
    subst this
    rw [Nat.gcd_zero_right] at h
    exact stop a i (by omega) h
  | succ k ih =>
    intro b a i hb hba ha hi h
    by_cases h0 : b = 0
    · subst h0
      rw [Nat.gcd_zero_right] at h
      exact stop a i (by omega) h
    · refine one a b i (by omega) hba ha (by omega) ?_
      have hlt : a % b < b := Nat.mod_lt _ (by omega)
      rw [g1] at h
      by_cases h1 : a % b = 0
      · rw [h1]
        rw [h1, Nat.gcd_zero_right] at h
        exact stop b (i + 1) (by omega) h
      · refine one b (a % b) (i + 1) (by omega) hlt (by omega) (by omega) ?_
        rw [g1] at h
        have hlt2 : b % (a % b) < a % b := Nat.mod_lt _ (by omega)
        have h2 : b % (a % b) < 2 ^ k := by
          rw [Nat.pow_succ] at hb
          generalize a % b = r at *
          have h3 := Nat.div_add_mod b r
          have h4 : 1 ≤ b / r := Nat.div_pos (by omega) (by omega)
          have h5 : r * 1 ≤ r * (b / r) := Nat.mul_le_mul_left r h4
          omega
        exact ih (b % (a % b)) (a % b) (i + 1 + 1) h2 hlt2 (by omega) (by omega) h
theorem s_C_common {post : Int32 → Mem → Prop} {M : Mem} {a b : Nat} (ha : a ≤ 531441) (hb : b ≤ 531441) (h : post (nI (Nat.gcd a b)) M) : P_Bells_commonPart post (nI a) (nI b) M := by
  refine s_max (s_min ?_)
  have e2 : jmin (nI a) (nI b) = nI (min a b) := by rw [nI_I, nI_I, I_min (by omega) (by omega), nI_I]; congr 1; omega
  rw [nI_max (by omega) (by omega), e2]
  have hg : Nat.gcd a b = Nat.gcd (max a b) (min a b) := by
    rcases Nat.le_total a b with q | q
    · rw [Nat.max_eq_right q, Nat.min_eq_left q, Nat.gcd_comm]
    · rw [Nat.max_eq_left q, Nat.min_eq_right q]
  rw [hg] at h
  by_cases hlt : min a b < max a b
  · exact s_C_common15 20 _ _ 0 (by omega) hlt (by omega) (by omega) h
  · have hab : min a b = max a b := by omega
    rw [hab] at h ⊢
    generalize max a b = x at *
    rw [Nat.gcd_self] at h
    by_cases h0 : x = 0
    · subst h0
      exact ⟨1, fun c => h, fun _ => ⟨fun _ => h, fun c => absurd rfl c⟩⟩
    · refine ⟨2, fun c => absurd c (by decide), fun _ => ⟨fun c => ?_, fun c => ⟨c, fun x5 e5 => ?_⟩⟩⟩
      · rw [show (0 : Int32) = nI 0 from rfl, nI_eq (by omega) (by omega)] at c; omega
      · have e6 : irm (nI x) (nI x) = 0 := by rw [nI_I, I_rem (by omega) (by omega), Int.emod_self]; rfl
        rw [e5, e6]
        exact ⟨fun c => h, fun _ => ⟨fun _ => h, fun c => absurd rfl c⟩⟩
theorem s_C_amounts {post : Int32 → Mem → Prop} {M : Mem} {a b : Nat} (ha : a ≤ 9) (hb : b ≤ 9) (h : post (bitF (fun n => decide (a ≤ n)) (max a (b + 1))) M) : P_Bells_amountsFromTo post (nI a) (nI b) M := by
  have key : ∃ j, P_Bells_amountsFromTo_4 post j (nI b) (bitF (fun n => decide (a ≤ n)) a) (nI a) M := by
    refine lpFrom (R := fun j x => P_Bells_amountsFromTo_4 post j (nI b) (bitF (fun n => decide (a ≤ n)) x) (nI x) M) (N := max a (b + 1)) (a := a) (by omega) (fun j => ⟨fun _ => h, fun c => absurd ?_ c⟩) (fun j x hx1 hx ih => ⟨fun c => ?_, fun _ => ⟨fun c => ?_, fun _ x2 e2 => ?_⟩⟩)
    · rw [nI_I, nI_I, I_lt (by omega) (by omega)]; omega
    · rw [nI_I, nI_I, I_lt (by omega) (by omega)] at c; omega
    · rw [lit_nI 9, nI_I, nI_I, I_lt (by omega) (by omega)] at c; omega
    · rw [bitF_s1 (decide_eq_true hx1), ← e2] at ih
      rw [nI_1]; exact ih
  have e0 : bitF (fun n => decide (a ≤ n)) a = 0 := (bitF_0 (by omega)).mpr (fun x hx => decide_eq_false (by omega))
  rw [e0] at key
  exact key
section BELLS
variable {w lo hi : Nat → Int32} {p : Nat} {M : Mem}
theorem JC.o {M M' : Mem} (h : JC M w p lo hi) (f : ∀ c, c < 78 → M' c = M c) : JC M' w p lo hi := by
  refine ⟨h.1.off (fun c h1 h2 => f c (by omega)), ?_, ?_, ?_⟩
  · have hL := h.2.1
    unfold LwOK at *
    rw [f 63 (by omega), f 65 (by omega), f 66 (by omega), f 67 (by omega), f 68 (by omega)]; exact hL
  · unfold JdOK; rw [f 69 (by omega), f 70 (by omega), f 71 (by omega)]; exact h.2.2.1
  · rw [f 70 (by omega), f 71 (by omega)]; exact h.2.2.2
/-- the amounts of an element that fit -/
def ftM (w lo hi : Nat → Int32) (p : Nat) (set : Int32) (e : Nat) : Int32 := bitF (fun n => decide (0 < n) && amB w lo hi p set e (nI n)) 10
def WgOK (M : Mem) (w lo hi : Nat → Int32) (p : Nat) (set : Int32) : Prop := ∀ e, e < nn (w 7) → tb (woA w set) e = true → M 79 e = ftM w lo hi p set e
theorem or_in {set : Int32} {e : Nat} (he : e < 32) (h : tb set e = true) : set ||| ((1 : Int32) <<< (nI e &&& 31)) = set := by
  apply gb_ext
  intro k hk
  rw [gb_or, gb_shl he hk]
  by_cases q : k = e
  · subst q; rw [tb_gb he] at h; rw [h]; rfl
  · rw [decide_eq_false q, Bool.or_false]
theorem s_C_weigh {post : Mem → Prop} {set : Int32} (hJ : JC M w p lo hi) (hI : WInv w) (hp : p < 3) (h : ∀ M', FrQ M M' → JC M' w p lo hi → WgOK M' w lo hi p set → post M') : P_Bells_weigh post set M := by
  obtain ⟨hne, hne6⟩ := hI.ne
  refine s_C_withoutAir hJ.1 hI ?_
  have key : ∃ j, ∀ M', FrQ M M' → JC M' w p lo hi → (∀ e, e < 0 → tb (woA w set) e = true → M' 79 e = ftM w lo hi p set e) → P_Bells_weigh_14 post j set (woA w set) (nI 0) M' := by
    refine lpN (R := fun j x => ∀ M', FrQ M M' → JC M' w p lo hi → (∀ e, e < x → tb (woA w set) e = true → M' 79 e = ftM w lo hi p set e) → P_Bells_weigh_14 post j set (woA w set) (nI x) M') (N := nn (w 7)) (fun j M' f' j' t' => brSt (by rw [j'.1.ne]; exact hne) (h M' f' j' t')) (fun j x hx ih M' f' j' t' => brGo (by rw [j'.1.ne]; exact hne) (by omega) hx ?_)
    have fin : ∀ M2 v, FrQ M M2 → JC M2 w p lo hi → (∀ e, e < x → tb (woA w set) e = true → M2 79 e = ftM w lo hi p set e) → (tb (woA w set) x = true → v = ftM w lo hi p set x) → P_Bells_weigh_54 post (P_Bells_weigh_14 post j) set (woA w set) (nI x) (nI x) v M2 := by
      intro M2 v f2 j2 t2 hv
      refine ⟨vin_nI (by omega) (by omega), fun M3 e3 => ?_⟩
      rw [nI_clamp (by omega)] at e3
      rw [nI_1]
      refine ih M3 (by rw [e3]; exact f2.put (by omega) _ _) (j2.o (fun c hc => by rw [e3, ms_off _ _ _ (by omega)])) (fun e he ht => ?_)
      by_cases q : e = x
      · rw [q, e3, ms_at]; exact hv (by rw [← q]; exact ht)
      · rw [e3, ms_ne _ _ _ q]; exact t2 e (by omega) ht
    refine s_C_has (b0n (fun c => fin M' 0 f' j' t' (fun q => by rw [c] at q; cases q)) (fun c => s_C_amountBits j' hI hp (by omega) (fun M2 f2 => ?_)))
    have hts : tb set x = true := by rw [tb_woA hI hx, Bool.and_eq_true] at c; exact c.1
    rw [or_in (by omega) hts]
    exact fin M2 _ (f'.trans f2.q) (j'.t f2) (fun e he ht => by rw [f2.1 79 (by omega)]; exact t' e he ht) (fun _ => rfl)
  obtain ⟨j, hj⟩ := key
  exact ⟨j, hj M (FrQ.refl M) hJ (fun e he => by omega)⟩
theorem ft_0 {set : Int32} {e : Nat} : bcF (ftM w lo hi p set e) = nI (fiN (fun n => amB w lo hi p set e (nI n))) := by
  unfold ftM
  rw [bcF_bitF (by omega), show (10 : Nat) = 9 + 1 from rfl, cntB_front]
  unfold fiN
  simp
theorem ft_1 {set : Int32} {e a b : Nat} (ha : a ≤ 9) (hb : b ≤ 9) : bcF (ftM w lo hi p set e &&& bitF (fun n => decide (a ≤ n)) (max a (b + 1))) = nI (itN (fun n => amB w lo hi p set e (nI n)) (nI a) (nI b)) := by
  have h1 : ftM w lo hi p set e &&& bitF (fun n => decide (a ≤ n)) (max a (b + 1)) = bitF (fun n => decide (0 < n) && (amB w lo hi p set e (nI n) && inb (nI n) (nI a) (nI b))) 10 := by
    apply gb_ext
    intro k hk
    unfold ftM
    rw [gb_and, bitF_gb _ _ (by omega) k hk, bitF_gb _ _ (by omega) k hk, bitF_gb _ _ (by omega) k hk]
    by_cases q : k < 10
    · have e1 : inb (nI k) (nI a) (nI b) = (decide (k < max a (b + 1)) && decide (a ≤ k)) := by
        unfold inb
        rw [Bool.eq_iff_iff, decide_eq_true_eq, Bool.and_eq_true, decide_eq_true_eq, decide_eq_true_eq, nI_le_iff (by omega) (by omega), nI_le_iff (by omega) (by omega)]
        omega
      rw [e1, decide_eq_true q]
      cases decide (0 < k) <;> cases amB w lo hi p set e (nI k) <;> simp
    · rw [decide_eq_false q]; rfl
  rw [h1, bcF_bitF (by omega), show (10 : Nat) = 9 + 1 from rfl, cntB_front]
  unfold itN
  simp
theorem s_C_reckon {post : Mem → Prop} {set : Int32} {m : Nat} (hD : Dk 1 M w) (hI : WInv w) (hm : m < 4) (hW : WgOK M w lo hi p set) (h : ∀ M', (∀ c, c ≠ 78 → M' c = M c) → M' 78 3 = nI (chA w lo hi p set m).1 → M' 78 4 = nI (chA w lo hi p set m).2 → post M') : P_Bells_reckon post set (nI m) M := by
  obtain ⟨hne, hne6⟩ := hI.ne
  refine s_C_withoutAir hD hI (fun M2 m2 M3 m3 => ?_)
  have hbd : ∀ e, e ≤ 6 → _ := fun e he => chF_bd (w := w) (lo := lo) (hi := hi) (p := p) (set := set) (m := m) (e := e) he
  unfold chA chU at h
  generalize hF : chF w lo hi p set m = F at h hbd
  have key : ∃ j, ∀ M' B, (∀ c, c ≠ 78 → M' c = M c) → M' 78 3 = nI (F 0).1 → M' 78 4 = nI B → B ≤ 9 ^ 0 → (¬ (F 0).1 = 0 → B = (F 0).2) → P_Bells_reckon_25 post j (nI m) (woA w set) (nI 0) M' := by
    refine lpN (R := fun j e => ∀ M' B, (∀ c, c ≠ 78 → M' c = M c) → M' 78 3 = nI (F e).1 → M' 78 4 = nI B → B ≤ 9 ^ e → (¬ (F e).1 = 0 → B = (F e).2) → P_Bells_reckon_25 post j (nI m) (woA w set) (nI e) M') (N := nn (w 7)) (fun j M' B f' u' d' b' hB => ?_) (fun j e he ih M' B f' u' d' b' hB => ?_)
    · have hD' : Dk 1 M' w := hD.off (fun c h1 h2 => f' c (by omega))
      obtain ⟨b1, b2, b3⟩ := hbd _ hne6
      have hB6 : B ≤ 531441 := by
        have h4 : 9 ^ (nn (w 7)) ≤ 9 ^ 6 := Nat.pow_le_pow_right (by omega) hne6
        have h5 : (9 : Nat) ^ 6 = 531441 := by decide
        omega
      generalize F (nn (w 7)) = q at *
      refine brSt (by rw [hD'.ne]; exact hne) ?_
      rw [u', d']
      refine s_C_common b1 hB6 ?_
      rw [u']
      have zero : q.1 = 0 → P_Bells_reckon_192 post M' := by
        intro hq M4 m4 M5 m5
        rw [hq, Nat.zero_div, Nat.gcd_zero_left, Nat.div_self (by omega)] at h
        refine h M5 (fun c hc => by rw [m5, ms_off _ _ _ hc, m4, ms_off _ _ _ hc]; exact f' c hc) ?_ ?_
        · rw [m5, ms_ne _ _ _ (by omega), m4, ms_at]; rfl
        · rw [m5, ms_at]; rfl
      rw [show (0 : Int32) = nI 0 from rfl, nI_eq (by omega) (by omega)]
      refine ⟨zero, fun c => ?_⟩
      have e1 := hB c
      subst e1
      have hg : 0 < Nat.gcd q.1 q.2 := Nat.gcd_pos_of_pos_right _ (by omega)
      have hg2 : Nat.gcd q.1 q.2 ≤ 531441 := Nat.le_trans (Nat.le_of_dvd (by omega) (Nat.gcd_dvd_right _ _)) b3
      have hne : ¬ nI (Nat.gcd q.1 q.2) = nI 0 := by rw [nI_eq (by omega) (by omega)]; omega
      refine ⟨fun _ => ⟨hne, fun M4 m4 => ⟨hne, fun M5 m5 => ?_⟩⟩, fun c2 => absurd c2 hne⟩
      rw [nI_div (by omega) hg (by omega)] at m4
      have e17 : M4 78 4 = nI q.2 := by rw [m4, ms_ne _ _ _ (by omega)]; exact d'
      rw [e17, nI_div (by omega) hg (by omega)] at m5
      refine h M5 (fun c hc => by rw [m5, ms_off _ _ _ hc, m4, ms_off _ _ _ hc]; exact f' c hc) ?_ ?_
      · rw [m5, ms_ne _ _ _ (by omega), m4, ms_at]
      · rw [m5, ms_at]
    · have hD' : Dk 1 M' w := hD.off (fun c h1 h2 => f' c (by omega))
      have he6 : e < 6 := by omega
      have hpw : 9 ^ (e + 1) = 9 ^ e * 9 := Nat.pow_succ ..
      have hrc := hI.2.2.2.2.2.2.2.2.2.2.2.2.2.2.2.2.2 (6 * m + e) (by omega)
      obtain ⟨ea, ha1⟩ := nn_of hrc.1 (by omega)
      obtain ⟨eb, hb1⟩ := nn_of hrc.2 (by omega)
      have ha9 := hrc.1.2
      have hb9 := hrc.2.2
      have eF : F (e + 1) = if airB w e then F e else if tb set e then ((F e).1 * itN (fun n => amB w lo hi p set e (nI n)) (w (311 + 2 * (6 * m + e))) (w (312 + 2 * (6 * m + e))), (F e).2 * max 1 (fiN (fun n => amB w lo hi p set e (nI n))))
        else (if w (311 + 2 * (6 * m + e)) ≤ 0 then (F e).1 else 0, (F e).2) := by rw [← hF]; rfl
      refine brGo (by rw [hD'.ne]; exact hne) (by omega) he (fun x5 e5 => ?_)
      rw [at6] at e5
      subst e5
      have hv6 : vp_in (nI e) 6 := vin_nI he6 (by omega)
      have hv24 : vp_in (nI (6 * m + e)) 24 := vin_nI (by omega) (by omega)
      have go : ∀ M4 B', (∀ c, c ≠ 78 → M4 c = M c) → M4 78 3 = nI (F (e + 1)).1 → M4 78 4 = nI B' → B' ≤ 9 ^ e * 9 → (¬ (F (e + 1)).1 = 0 → B' = (F (e + 1)).2) → P_Bells_reckon_161 post (P_Bells_reckon_25 post j) (nI m) (woA w set) (nI e) M4 := by
        intro M4 B' f4 u4 d4 b4 h4
        unfold P_Bells_reckon_161
        rw [nI_1]
        exact ih M4 B' f4 u4 d4 (by rw [hpw]; exact b4) h4
      refine s_C_has ?_
      rw [tb_woA hI he]
      have hair := airB_iff hI he6
      rw [show (nI e).toNatClampNeg = e from nI_clamp (by omega), show (nI (6 * m + e)).toNatClampNeg = 6 * m + e from nI_clamp (by omega), hD'.air he6, hD'.clo (by omega), hD'.chi (by omega)]
      refine b0n (fun c => ⟨hv6, fun c2 => ?_, fun c2 => ⟨hv24, fun c3 => ?_, fun c3 M6 m6 => ?_⟩⟩) (fun c => ⟨hv6, hv24, hv24, ?_⟩)
      · rw [if_pos (hair.mpr c2)] at eF
        exact go M' B f' (by rw [eF]; exact u') d' (by omega) (by rw [eF]; exact hB)
      · have hna : airB w e = false := by
          cases hq : airB w e with
          | false => rfl
          | true => exact absurd c2 (hair.mp hq)
        rw [hna, Bool.not_false, Bool.and_true] at c
        rw [hna, c, if_neg (by decide), if_neg (by decide), if_pos c3] at eF
        exact go M' B f' (by rw [eF]; exact u') d' (by omega) (by rw [eF]; exact hB)
      · have hna : airB w e = false := by
          cases hq : airB w e with
          | false => rfl
          | true => exact absurd c2 (hair.mp hq)
        rw [hna, Bool.not_false, Bool.and_true] at c
        rw [hna, c, if_neg (by decide), if_neg (by decide), if_neg c3] at eF
        exact go M6 B (fun d hd => by rw [m6, ms_off _ _ _ hd]; exact f' d hd) (by rw [eF, m6, ms_at]; rfl) (by rw [m6, ms_ne _ _ _ (by omega)]; exact d') (by omega) (by rw [eF]; exact fun q => absurd rfl q)
      · have hwg : M' 79 e = ftM w lo hi p set e := by rw [f' 79 (by omega)]; exact hW e he (by rw [tb_woA hI he]; exact c)
        rw [Bool.and_eq_true] at c
        have hna : airB w e = false := by simpa using c.2
        rw [hna, c.1, if_neg (by decide), if_pos rfl] at eF
        rw [ea, eb]
        refine s_C_amounts (by omega) (by omega) (fun x6 e6 => ?_)
        rw [hwg] at e6
        subst e6
        refine s_bitCount (fun M10 m10 => ?_)
        rw [ft_1 (by omega) (by omega), ← ea, ← eb, u', pk_mul] at m10
        refine ⟨hv6, s_bitCount (fun M12 m12 => ?_)⟩
        have e79 : M10 79 e = ftM w lo hi p set e := by rw [m10, ms_off _ _ _ (by omega)]; exact hwg
        have e784 : M10 78 4 = nI B := by rw [m10, ms_ne _ _ _ (by omega)]; exact d'
        rw [e79, ft_0, e784, pk_mul] at m12
        have hfi : fiN (fun n => amB w lo hi p set e (nI n)) ≤ 9 := cntB_le _ _
        have hit : itN (fun n => amB w lo hi p set e (nI n)) (w (311 + 2 * (6 * m + e))) (w (312 + 2 * (6 * m + e))) ≤ fiN (fun n => amB w lo hi p set e (nI n)) := cntB_mono (fun x _ q => by rw [Bool.and_eq_true] at q; exact q.1)
        generalize itN (fun n => amB w lo hi p set e (nI n)) (w (311 + 2 * (6 * m + e))) (w (312 + 2 * (6 * m + e))) = it at *
        generalize fiN (fun n => amB w lo hi p set e (nI n)) = fi at *
        refine go M12 (B * fi) (fun d hd => by rw [m12, ms_off _ _ _ hd, m10, ms_off _ _ _ hd]; exact f' d hd) (by rw [eF, m12, ms_ne _ _ _ (by omega), m10, ms_at]) (by rw [m12, ms_at]) (Nat.mul_le_mul b' hfi) ?_
        rw [eF]
        intro q
        have q : ¬ (F e).1 * it = 0 := q
        have q1 : ¬ (F e).1 = 0 := fun z => q (by rw [z, Nat.zero_mul])
        have q2 : ¬ it = 0 := fun z => q (by rw [z, Nat.mul_zero])
        show B * fi = (F e).2 * max 1 fi
        rw [hB q1, show max 1 fi = fi by omega]
  obtain ⟨j, hj⟩ := key
  refine ⟨j, hj M3 1 (fun c hc => by rw [m3, ms_off _ _ _ hc, m2, ms_off _ _ _ hc]) ?_ (by rw [m3, ms_at]; rfl) (by decide) (fun _ => by rw [← hF]; rfl)⟩
  rw [← hF, m3, ms_ne _ _ _ (by omega), m2, ms_at]; rfl
theorem WgOK.o {M M' : Mem} {set : Int32} (h : WgOK M w lo hi p set) (f : M' 79 = M 79) : WgOK M' w lo hi p set := fun e he ht => by rw [f]; exact h e he ht
end BELLS
section BELLS2
variable {w lo hi : Nat → Int32} {M : Mem}
theorem s_R_chance {post : Int32 → Mem → Prop} {ex : String → Mem → Prop} {p set m : Int32} {below : Bool} (hD : Dk 1 M w) (hI : WInv w) (hL : Lw M w) (hS : SpOK w (-1) 0 lo hi (nn (w 9)))
    (h : QX post ex M w [IOB] (qp1 (inb p 0 (w 8 - 1) && inb m 0 (w 11 - 1)) (if below then nI (chA w lo hi (nn p) set (nn m)).2 else nI (chA w lo hi (nn p) set (nn m)).1))) : P_R_chance post ex p set m (bi below) M := by
  refine s_wantPlate hD (fun c1 => s_wantMaker hD (fun c2 => ?_) (fun c2 => ?_)) (fun c1 => ?_)
  · simp only [qp1, c1, c2, Bool.and_self, Bool.not_true, Bool.false_eq_true, if_false] at h
    obtain ⟨hp, hp3⟩ := hI.inp c1
    obtain ⟨hm, _, hm4⟩ := hI.inm c2
    rw [hp, hm]
    refine s_C_openJ hD hI hL hp3 hS (fun M1 f1 hJ => s_C_weigh hJ hI hp3 (fun M2 f2 hJ2 hW => s_C_reckon hJ2.1 hI hm4 hW (fun M3 f3 u3 d3 => ?_)))
    have hpost := h.go (f1.trans (f2.trans (fun c hc => f3 c (by omega)))) (Or.inr (hJ2.o (fun c hc => f3 c (by omega))).2.1)
    unfold P_R_chance_57
    rw [u3, d3]
    cases below with
    | false => exact ⟨fun _ => hpost, fun q => absurd rfl q⟩
    | true => exact ⟨fun q => absurd q (by decide), fun _ => hpost⟩
  · simp only [qp1, c2, Bool.and_false, Bool.not_false, if_true] at h; exact h.bad1
  · simp only [qp1, c1, Bool.false_and, Bool.not_false, if_true] at h; exact h.bad1
theorem cmp_iff {a b c d : Nat} (ha : a ≤ 531441) (hb : b ≤ 531441) (hc : c ≤ 531441) (hd : d ≤ 531441) : lg_cmp ((nI a).toInt64 * (nI b).toInt64) ((nI c).toInt64 * (nI d).toInt64) ≤ 0 ↔ ¬ c * d < a * b := by
  rw [← lmulI ha hb hc hd, leI, ltI]
  have : (0 : Int32).toInt = 0 := rfl
  omega
theorem s_R_likely {post : Int32 → Mem → Prop} {ex : String → Mem → Prop} {p set : Int32} (hD : Dk 1 M w) (hI : WInv w) (hL : Lw M w) (hS : SpOK w (-1) 0 lo hi (nn (w 9)))
    (h : QX post ex M w [IOB] (qp1 (inb p 0 (w 8 - 1)) (gcF (chA w lo hi (nn p) set) (nn (w 11))).1)) : P_R_likely post ex p set M := by
  refine s_qp1' hD hI hL hS h (fun hp hp3 M1 hJ hpost => s_C_weigh hJ hI hp3 (fun M2 f2 hJ2 hW => ?_))
  obtain ⟨hn, hn4⟩ := hI.nm
  have hcb : ∀ m, (chA w lo hi (nn p) set m).1 ≤ 531441 ∧ (chA w lo hi (nn p) set m).2 ≤ 531441 := fun m => ⟨(chA_bd hI).1, (chA_bd hI).2.2.1⟩
  have hgb := gcF_bd hcb
  have hrk : ∀ (m : Nat), m < 4 → ∀ (X : Mem → Prop) (M3 : Mem), (∀ c, c ≠ 78 → M3 c = M2 c) → (∀ M', (∀ c, c ≠ 78 → M' c = M2 c) → M' 78 3 = nI (chA w lo hi (nn p) set m).1 → M' 78 4 = nI (chA w lo hi (nn p) set m).2 → X M') → P_Bells_reckon X set (nI m) M3 := by
    intro m hm X M3 f3 hX
    exact s_C_reckon (hJ2.1.off (fun c h1 h2 => f3 c (by omega))) hI hm (hW.o (f3 79 (by omega))) (fun M4 f4 u4 d4 => hX M4 (fun c hc => by rw [f4 c hc]; exact f3 c hc) u4 d4)
  have hfin : ∀ M', (∀ c, c ≠ 78 → M' c = M2 c) → post (gcF (chA w lo hi (nn p) set) (nn (w 11))).1 M' := fun M' f' => hpost M' (f2.trans (fun c hc => f' c (by omega))) (Or.inr (hJ2.o (fun c hc => f' c (by omega))).2.1)
  generalize chA w lo hi (nn p) set = ch at *
  generalize hG : gcF ch = G at *
  have key : ∃ j, ∀ M', (∀ c, c ≠ 78 → M' c = M2 c) → P_Bells_likeliest_10 (fun r4 M4 => post r4 M4) j set (G 0).1 (nI (G 0).2.1).toInt64 (nI (G 0).2.2).toInt64 (nI 0) M' := by
    refine lpN (R := fun j m => ∀ M', (∀ c, c ≠ 78 → M' c = M2 c) → P_Bells_likeliest_10 (fun r4 M4 => post r4 M4) j set (G m).1 (nI (G m).2.1).toInt64 (nI (G m).2.2).toInt64 (nI m) M') (N := nn (w 11)) (fun j M' f' => brSt (by rw [f' 1 (by omega), hJ2.1.nm]; exact hn) (hfin M' f')) (fun j m hm ih M' f' => brGo (by rw [f' 1 (by omega), hJ2.1.nm]; exact hn) (by omega) hm (hrk m (by omega) _ M' f' (fun M3 f3 u3 d3 => ?_)))
    have ih := ih M3 f3
    have eG : G (m + 1) = if (G m).2.1 * (ch m).2 < (ch m).1 * (G m).2.2 then (nI m, ch m) else G m := by rw [← hG]; rfl
    rw [u3, d3, cmp_iff (hcb m).1 (hgb m).2 (hgb m).1 (hcb m).2]
    unfold P_Bells_likeliest_64
    rw [nI_1]
    refine ⟨fun c => ?_, fun c x3 e3 x5 e5 => ?_⟩
    · rw [if_neg c] at eG; rw [eG] at ih; exact ih
    · rw [if_pos (Classical.byContradiction c)] at eG; rw [eG] at ih; rw [e3, e5]; exact ih
  obtain ⟨j, hj⟩ := key
  have hj := hj M2 (fun _ _ => rfl)
  rw [← hG] at hj
  exact ⟨j, hj⟩
/-- equal parts, told by reduced pairs -/
theorem red_eq {a b c d : Nat} (hb : 1 ≤ b) (h1 : Nat.gcd a b = 1) (h2 : Nat.gcd c d = 1) (h : a * d = c * b) : a = c ∧ b = d := by
  have d1 : b ∣ d := by
    have : b ∣ a * d := ⟨c, by rw [h, Nat.mul_comm]⟩
    exact Nat.Coprime.dvd_of_dvd_mul_left (by rw [Nat.Coprime, Nat.gcd_comm]; exact h1) this
  have d2 : d ∣ b := by
    have : d ∣ c * b := ⟨a, by rw [← h, Nat.mul_comm]⟩
    exact Nat.Coprime.dvd_of_dvd_mul_left (by rw [Nat.Coprime, Nat.gcd_comm]; exact h2) this
  have e := Nat.dvd_antisymm d1 d2
  subst e
  exact ⟨Nat.eq_of_mul_eq_mul_right (by omega) h, rfl⟩
theorem gcF_max {ch : Nat → Nat × Nat} (hp : ∀ m, 1 ≤ (ch m).2) : ∀ n, 1 ≤ (gcF ch n).2.2 ∧ ((gcF ch n).2 = (0, 1) ∨ ∃ k, k < n ∧ (gcF ch n).2 = ch k) ∧ ∀ k, k < n → (ch k).1 * (gcF ch n).2.2 ≤ (gcF ch n).2.1 * (ch k).2
  | 0 => ⟨by simp [gcF], Or.inl rfl, fun k hk => by omega⟩
  | n + 1 => by
    obtain ⟨h1, h2, h3⟩ := gcF_max hp n
    have e : gcF ch (n + 1) = if (gcF ch n).2.1 * (ch n).2 < (ch n).1 * (gcF ch n).2.2 then (nI n, ch n) else gcF ch n := rfl
    rw [e]
    generalize gcF ch n = g at *
    by_cases c : g.2.1 * (ch n).2 < (ch n).1 * g.2.2
    · rw [if_pos c]
      refine ⟨hp n, Or.inr ⟨n, by omega, rfl⟩, fun k hk => ?_⟩
      show (ch k).1 * (ch n).2 ≤ (ch n).1 * (ch k).2
      by_cases q : k = n
      · subst q; exact Nat.le_refl _
      · have h4 := h3 k (by omega)
        have h5 : (ch k).1 * (ch n).2 * g.2.2 ≤ (ch n).1 * (ch k).2 * g.2.2 := by
          have a1 : (ch k).1 * (ch n).2 * g.2.2 = (ch k).1 * g.2.2 * (ch n).2 := Nat.mul_right_comm _ _ _
          have a2 : (ch k).1 * g.2.2 * (ch n).2 ≤ g.2.1 * (ch k).2 * (ch n).2 := Nat.mul_le_mul_right _ h4
          have a3 : g.2.1 * (ch k).2 * (ch n).2 = g.2.1 * (ch n).2 * (ch k).2 := Nat.mul_right_comm _ _ _
          have a4 : g.2.1 * (ch n).2 * (ch k).2 ≤ (ch n).1 * g.2.2 * (ch k).2 := Nat.mul_le_mul_right _ (Nat.le_of_lt c)
          have a5 : (ch n).1 * g.2.2 * (ch k).2 = (ch n).1 * (ch k).2 * g.2.2 := Nat.mul_right_comm _ _ _
          omega
        exact Nat.le_of_mul_le_mul_right h5 h1
    · rw [if_neg c]
      refine ⟨h1, h2.imp id (fun ⟨k, q1, q2⟩ => ⟨k, by omega, q2⟩), fun k hk => ?_⟩
      by_cases q : k = n
      · subst q; omega
      · exact h3 k (by omega)
theorem fg_any {ch : Nat → Nat × Nat} {m n : Nat} (hp : ∀ m, 1 ≤ (ch m).2) (hg : ∀ m, Nat.gcd (ch m).1 (ch m).2 = 1) (hm : m < n) : fgB (ch m) (gcF ch n).2 = anyB (fun k => decide ((ch m).1 * (ch k).2 < (ch k).1 * (ch m).2)) n := by
  obtain ⟨h1, h2, h3⟩ := gcF_max hp n
  generalize (gcF ch n).2 = g at *
  by_cases q : ch m = g
  · have e1 : fgB (ch m) g = false := by rw [q]; simp [fgB]
    rw [e1]
    symm
    rw [anyB_f]
    intro k hk
    have := h3 k hk
    rw [← q] at this
    exact decide_eq_false (by omega)
  · have e1 : fgB (ch m) g = true := by
      unfold fgB
      by_cases q1 : (ch m).1 = g.1
      · have : ¬ (ch m).2 = g.2 := fun q2 => q (Prod.ext q1 q2)
        rw [decide_eq_true this, Bool.or_true]
      · rw [decide_eq_true q1, Bool.true_or]
    rw [e1]
    symm
    have hlt : (ch m).1 * g.2 < g.1 * (ch m).2 := by
      refine Nat.lt_of_le_of_ne (h3 m hm) (fun e => q ?_)
      have gg : Nat.gcd g.1 g.2 = 1 := by
        rcases h2 with z | ⟨k, _, z⟩
        · rw [z]; rfl
        · rw [z]; exact hg k
      have := red_eq (hp m) (hg m) gg e
      exact Prod.ext this.1 this.2
    rcases h2 with z | ⟨k, hk, z⟩
    · rw [z] at hlt; simp at hlt
    · rw [z] at hlt
      exact anyB_iff.mpr ⟨k, hk, decide_eq_true hlt⟩
theorem s_R_forged {post : Int32 → Mem → Prop} {ex : String → Mem → Prop} {p set m : Int32} (hD : Dk 1 M w) (hI : WInv w) (hL : Lw M w) (hS : SpOK w (-1) 0 lo hi (nn (w 9)))
    (h : QX post ex M w [IOB] (qp1 (inb p 0 (w 8 - 1) && inb m 0 (w 11 - 1)) (bi (fgB (chA w lo hi (nn p) set (nn m)) (gcF (chA w lo hi (nn p) set) (nn (w 11))).2)))) : P_R_forged post ex p set m M := by
  refine s_wantPlate hD (fun c1 => s_wantMaker hD (fun c2 => ?_) (fun c2 => ?_)) (fun c1 => ?_)
  · simp only [qp1, c1, c2, Bool.and_self, Bool.not_true, Bool.false_eq_true, if_false] at h
    obtain ⟨hp, hp3⟩ := hI.inp c1
    obtain ⟨hm, hmn, hm4⟩ := hI.inm c2
    obtain ⟨hn, hn4⟩ := hI.nm
    rw [fg_any (ch := chA w lo hi (nn p) set) (fun k => (chA_bd hI).2.1) (fun k => (chA_bd hI).2.2.2) hmn] at h
    rw [hp, hm]
    refine s_C_openJ hD hI hL hp3 hS (fun M1 f1 hJ => s_C_weigh hJ hI hp3 (fun M2 f2 hJ2 hW => ?_))
    have hcb : ∀ m, (chA w lo hi (nn p) set m).1 ≤ 531441 ∧ (chA w lo hi (nn p) set m).2 ≤ 531441 := fun m => ⟨(chA_bd hI).1, (chA_bd hI).2.2.1⟩
    have hrk : ∀ (m : Nat), m < 4 → ∀ (X : Mem → Prop) (M3 : Mem), (∀ c, c ≠ 78 → M3 c = M2 c) → (∀ M', (∀ c, c ≠ 78 → M' c = M2 c) → M' 78 3 = nI (chA w lo hi (nn p) set m).1 → M' 78 4 = nI (chA w lo hi (nn p) set m).2 → X M') → P_Bells_reckon X set (nI m) M3 := by
      intro m hm X M3 f3 hX
      exact s_C_reckon (hJ2.1.off (fun c h1 h2 => f3 c (by omega))) hI hm (hW.o (f3 79 (by omega))) (fun M4 f4 u4 d4 => hX M4 (fun c hc => by rw [f4 c hc]; exact f3 c hc) u4 d4)
    have hfin : ∀ M', (∀ c, c ≠ 78 → M' c = M2 c) → post _ M' := fun M' f' => h.go (f1.trans (f2.trans (fun c hc => f' c (by omega)))) (Or.inr (hJ2.o (fun c hc => f' c (by omega))).2.1)
    generalize nn m = m0 at *
    generalize chA w lo hi (nn p) set = ch at *
    refine hrk m0 hm4 _ M2 (fun _ _ => rfl) (fun M3 f3 u3 d3 x3 e3 x5 e5 => ?_)
    rw [e3, e5, u3, d3]
    generalize hA : (fun k => decide ((ch m0).1 * (ch k).2 < (ch k).1 * (ch m0).2)) = A at hfin
    have hAk : ∀ k, A k = decide ((ch m0).1 * (ch k).2 < (ch k).1 * (ch m0).2) := fun k => by rw [← hA]
    have key : ∃ j, anyB A 0 = false → ∀ M', (∀ c, c ≠ 78 → M' c = M2 c) → P_Bells_isBeaten_22 (fun r5 M5 => (r5 = 0 ∨ r5 = 1) ∧ post r5 M5) j set (nI (ch m0).1).toInt64 (nI (ch m0).2).toInt64 (nI 0) M' := by
      refine lpN (R := fun j k => anyB A k = false → ∀ M', (∀ c, c ≠ 78 → M' c = M2 c) → P_Bells_isBeaten_22 (fun r5 M5 => (r5 = 0 ∨ r5 = 1) ∧ post r5 M5) j set (nI (ch m0).1).toInt64 (nI (ch m0).2).toInt64 (nI k) M') (N := nn (w 11)) (fun j ha M' f' => brSt (by rw [f' 1 (by omega), hJ2.1.nm]; exact hn) ?_) (fun j k hk ih ha M' f' => brGo (by rw [f' 1 (by omega), hJ2.1.nm]; exact hn) (by omega) hk (hrk k (by omega) _ M' f' (fun M4 f4 u4 d4 => ?_)))
      · have := hfin M' f'
        rw [ha] at this
        exact ⟨Or.inl rfl, this⟩
      · rw [u4, d4, cmp_iff (hcb k).1 (hcb m0).2 (hcb m0).1 (hcb k).2]
        refine ⟨fun c => ?_, fun c => ?_⟩
        · rw [nI_1]
          exact ih (by simp only [anyB, ha, Bool.false_or]; rw [hAk]; exact decide_eq_false c) M4 f4
        · have := hfin M4 f4
          rw [anyB_iff.mpr ⟨k, hk, by rw [hAk]; exact decide_eq_true (Classical.byContradiction c)⟩] at this
          exact ⟨Or.inr rfl, this⟩
    obtain ⟨j, hj⟩ := key
    exact ⟨j, hj rfl M3 f3⟩
  · simp only [qp1, c2, Bool.and_false, Bool.not_false, if_true] at h; exact h.bad1
  · simp only [qp1, c1, Bool.false_and, Bool.not_false, if_true] at h; exact h.bad1
end BELLS2
