/-! NUMBERS: Int32 by Int. I z: the Int32 of z. -/
def I (z : Int) : Int32 := Int32.ofInt z
theorem I_toInt {z : Int} (h1 : -2147483648 ≤ z) (h2 : z < 2147483648) : (I z).toInt = z := by
  unfold I
  exact Int32.toInt_ofInt_of_le (by omega) (by omega)
theorem I_of (x : Int32) : I x.toInt = x := Int32.ofInt_toInt x
theorem rngI (x : Int32) : -2147483648 ≤ x.toInt ∧ x.toInt < 2147483648 := ⟨Int32.le_toInt x, Int32.toInt_lt x⟩
theorem eI {x : Int32} {z : Int} (h : x.toInt = z) : x = I z := by rw [← h, I_of]
theorem addI {x y : Int32} (h1 : -2147483648 ≤ x.toInt + y.toInt) (h2 : x.toInt + y.toInt < 2147483648) : (x + y).toInt = x.toInt + y.toInt := by
  rw [Int32.toInt_add]
  exact Int.bmod_eq_of_le (by omega) (by omega)
theorem subI {x y : Int32} (h1 : -2147483648 ≤ x.toInt - y.toInt) (h2 : x.toInt - y.toInt < 2147483648) : (x - y).toInt = x.toInt - y.toInt := by
  rw [Int32.toInt_sub]
  exact Int.bmod_eq_of_le (by omega) (by omega)
theorem mulI {x y : Int32} (h1 : -2147483648 ≤ x.toInt * y.toInt) (h2 : x.toInt * y.toInt < 2147483648) : (x * y).toInt = x.toInt * y.toInt := by
  rw [Int32.toInt_mul]
  exact Int.bmod_eq_of_le (by omega) (by omega)
theorem negI {x : Int32} (h : x.toInt ≠ -2147483648) : (-x).toInt = -x.toInt := by
  have := rngI x
  rw [Int32.toInt_neg]
  exact Int.bmod_eq_of_le (by omega) (by omega)
theorem divI {x y : Int32} (h : 0 < y.toInt) : (x / y).toInt = x.toInt.tdiv y.toInt := by
  have hx := rngI x
  rw [Int32.toInt_div]
  have h1 : -2147483648 ≤ x.toInt.tdiv y.toInt ∧ x.toInt.tdiv y.toInt < 2147483648 := by
    rcases Int.le_total 0 x.toInt with h0 | h0
    · have h2 := Int.tdiv_nonneg h0 (Int.le_of_lt h)
      have h3 := Int.tdiv_le_self y.toInt h0
      omega
    · have e : x.toInt.tdiv y.toInt = -((-x.toInt).tdiv y.toInt) := by rw [Int.neg_tdiv, Int.neg_neg]
      have h2 := Int.tdiv_nonneg (a := -x.toInt) (by omega) (Int.le_of_lt h)
      have h3 := Int.tdiv_le_self (a := -x.toInt) y.toInt (by omega)
      rw [e]
      omega
  exact Int.bmod_eq_of_le (by omega) (by omega)
theorem ltI {x y : Int32} : x < y ↔ x.toInt < y.toInt := Int32.lt_iff_toInt_lt
theorem leI {x y : Int32} : x ≤ y ↔ x.toInt ≤ y.toInt := Int32.le_iff_toInt_le
theorem eqI {x y : Int32} : x = y ↔ x.toInt = y.toInt := ⟨fun h => h ▸ rfl, fun h => Int32.toInt_inj.mp h⟩
theorem signI (x : Int32) : x.toBitVec.msb = decide (x.toInt < 0) := BitVec.msb_eq_toInt
theorem xorI {x y : Int32} (hy : 0 ≤ y.toInt) : 0 ≤ x ^^^ y ↔ 0 ≤ x.toInt := by
  have h1 : (x ^^^ y).toBitVec.msb = (x.toBitVec.msb ^^ y.toBitVec.msb) := by
    rw [Int32.toBitVec_xor, BitVec.msb_xor]
  rw [signI, signI, signI, decide_eq_false (p := y.toInt < 0) (by omega), Bool.xor_false] at h1
  have h2 : ((x ^^^ y).toInt < 0) ↔ (x.toInt < 0) := by simpa using h1
  rw [leI]
  show (0 : Int32).toInt ≤ _ ↔ _
  have e0 : (0 : Int32).toInt = 0 := rfl
  omega
theorem vinI {x : Int32} {n : Nat} : vp_in x n ↔ 0 ≤ x.toInt ∧ x.toInt < n := vp_in_iff
theorem clampI {x : Int32} : x.toNatClampNeg = x.toInt.toNat := rfl
/-- a truth as the machine has it -/
def bi (b : Bool) : Int32 := if b then 1 else 0
theorem bi_01 (b : Bool) : bi b = 0 ∨ bi b = 1 := by cases b <;> simp [bi]
theorem bi_0 {b : Bool} : bi b = 0 ↔ b = false := by cases b <;> simp [bi]
theorem bi_1 {b : Bool} : bi b = 1 ↔ b = true := by cases b <;> simp [bi]
theorem bi_t : bi true = 1 := rfl
theorem bi_f : bi false = 0 := rfl
/-! the JDK's arithmetic -/
def jabs (x : Int32) : Int32 := if 0 ≤ x then x else -x
def jmax (x y : Int32) : Int32 := if x < y then y else x
def jmin (x y : Int32) : Int32 := if y < x then y else x
theorem s_abs {post : Int32 → Mem → Prop} {x : Int32} {M : Mem} (h : post (jabs x) M) : P_Math_abs post x M := by
  unfold jabs at h
  exact ⟨fun c => by simpa [P_Math_abs_10, c] using h, fun c => by simpa [P_Math_abs_10, c] using h⟩
theorem s_max {post : Int32 → Mem → Prop} {x y : Int32} {M : Mem} (h : post (jmax x y) M) : P_Math_max post x y M := by
  unfold jmax at h
  exact ⟨fun c => by simpa [P_Math_max_10, c] using h, fun c => by simpa [P_Math_max_10, c] using h⟩
theorem s_min {post : Int32 → Mem → Prop} {x y : Int32} {M : Mem} (h : post (jmin x y) M) : P_Math_min post x y M := by
  unfold jmin at h
  exact ⟨fun c => by simpa [P_Math_min_10, c] using h, fun c => by simpa [P_Math_min_10, c] using h⟩
theorem jabsI {x : Int32} (h : x.toInt ≠ -2147483648) : (jabs x).toInt = if 0 ≤ x.toInt then x.toInt else -x.toInt := by
  have e0 : (0 : Int32).toInt = 0 := rfl
  unfold jabs
  by_cases c : 0 ≤ x
  · rw [if_pos c, if_pos (by rw [leI] at c; omega)]
  · rw [if_neg c, if_neg (by rw [leI] at c; omega), negI h]
theorem jmaxI {x y : Int32} : (jmax x y).toInt = max x.toInt y.toInt := by
  unfold jmax
  by_cases c : x < y
  · rw [if_pos c]; rw [ltI] at c; omega
  · rw [if_neg c]; rw [ltI] at c; omega
theorem jminI {x y : Int32} : (jmin x y).toInt = min x.toInt y.toInt := by
  unfold jmin
  by_cases c : y < x
  · rw [if_pos c]; rw [ltI] at c; omega
  · rw [if_neg c]; rw [ltI] at c; omega
theorem irmI {x y : Int32} (h : 0 < y.toInt) : (irm x y).toInt = x.toInt.tmod y.toInt := by
  have hx := rngI x
  have hy := rngI y
  have hd := divI (x := x) h
  have e := Int.tmod_add_mul_tdiv x.toInt y.toInt
  have hb : -y.toInt < x.toInt.tmod y.toInt ∧ x.toInt.tmod y.toInt < y.toInt := ⟨Int.lt_tmod_of_pos _ h, Int.tmod_lt_of_pos _ h⟩
  have hm : ((x / y) * y).toInt = x.toInt.tdiv y.toInt * y.toInt := by
    have e3 : x.toInt.tdiv y.toInt * y.toInt = x.toInt - x.toInt.tmod y.toInt := by rw [Int.mul_comm]; omega
    have hsg : (0 ≤ x.toInt → 0 ≤ x.toInt.tmod y.toInt) ∧ (x.toInt ≤ 0 → x.toInt.tmod y.toInt ≤ 0) := by
      refine ⟨fun h0 => Int.tmod_nonneg _ h0, fun h0 => ?_⟩
      have := Int.tmod_nonneg y.toInt (a := -x.toInt) (by omega)
      rw [Int.neg_tmod] at this
      omega
    rw [mulI (by rw [hd, e3]; omega) (by rw [hd, e3]; omega), hd]
  have e3 : x.toInt.tdiv y.toInt * y.toInt = x.toInt - x.toInt.tmod y.toInt := by rw [Int.mul_comm]; omega
  unfold irm
  rw [subI (by rw [hm, e3]; omega) (by rw [hm, e3]; omega), hm, e3]
  omega
theorem s_floorMod {post : Int32 → Mem → Prop} {x y : Int32} {M : Mem} (hy : 0 < y.toInt) (h : post (I (x.toInt % y.toInt)) M) : P_Math_floorMod post x y M := by
  have hx := rngI x
  have hy2 := rngI y
  have e0 : (0 : Int32).toInt = 0 := rfl
  have hr := irmI (x := x) hy
  have hb : -y.toInt < x.toInt.tmod y.toInt ∧ x.toInt.tmod y.toInt < y.toInt := ⟨Int.lt_tmod_of_pos _ hy, Int.tmod_lt_of_pos _ hy⟩
  refine ⟨fun e => by rw [e] at hy; omega, fun r er => ⟨fun c => ?_, fun c => ⟨fun c2 => ?_, fun c2 => ?_⟩⟩⟩
  · subst er
    rw [xorI (by omega)] at c
    have e : irm x y = I (x.toInt % y.toInt) := eI (by rw [hr, Int.tmod_eq_emod_of_nonneg c])
    show post _ M
    rw [e]; exact h
  · subst er
    rw [xorI (by omega)] at c
    have e : irm x y = I (x.toInt % y.toInt) := eI (by
      rw [c2, e0]
      rw [eqI, e0, hr] at c2
      have h3 : x.toInt % y.toInt = 0 := Int.emod_eq_zero_of_dvd (Int.dvd_of_tmod_eq_zero c2)
      omega)
    show post _ M
    rw [e]; exact h
  · subst er
    rw [xorI (by omega)] at c
    rw [eqI, e0, hr] at c2
    have h4 : x.toInt.tmod y.toInt ≤ 0 := by
      have := Int.tmod_nonneg y.toInt (a := -x.toInt) (by omega)
      rw [Int.neg_tmod] at this
      omega
    have e : irm x y + y = I (x.toInt % y.toInt) := eI (by
      rw [addI (by rw [hr]; omega) (by rw [hr]; omega), hr]
      have h5 := Int.tmod_add_mul_tdiv x.toInt y.toInt
      have h6 : x.toInt.tmod y.toInt + y.toInt = x.toInt + y.toInt * (1 - x.toInt.tdiv y.toInt) := by
        rw [Int.mul_sub, Int.mul_one]; omega
      have h7 : (x.toInt.tmod y.toInt + y.toInt) % y.toInt = x.toInt % y.toInt := by rw [h6, Int.add_mul_emod_self_left]
      rw [← h7, Int.emod_eq_of_lt (by omega) (by omega)])
    rw [e]; exact h
theorem s_floorDiv {post : Int32 → Mem → Prop} {x y : Int32} {M : Mem} (hy : 0 < y.toInt) (h : post (I (x.toInt / y.toInt)) M) : P_Math_floorDiv post x y M := by
  have hx := rngI x
  have hy2 := rngI y
  have e0 : (0 : Int32).toInt = 0 := rfl
  have hd := divI (x := x) hy
  have hb : -y.toInt < x.toInt.tmod y.toInt ∧ x.toInt.tmod y.toInt < y.toInt := ⟨Int.lt_tmod_of_pos _ hy, Int.tmod_lt_of_pos _ hy⟩
  have e := Int.tmod_add_mul_tdiv x.toInt y.toInt
  have e3 : x.toInt.tdiv y.toInt * y.toInt = x.toInt - x.toInt.tmod y.toInt := by rw [Int.mul_comm]; omega
  have hsg : (0 ≤ x.toInt → 0 ≤ x.toInt.tmod y.toInt) ∧ (x.toInt ≤ 0 → x.toInt.tmod y.toInt ≤ 0) := by
    refine ⟨fun h0 => Int.tmod_nonneg _ h0, fun h0 => ?_⟩
    have := Int.tmod_nonneg y.toInt (a := -x.toInt) (by omega)
    rw [Int.neg_tmod] at this
    omega
  have hm : ((x / y) * y).toInt = x.toInt - x.toInt.tmod y.toInt := by
    rw [mulI (by rw [hd, e3]; omega) (by rw [hd, e3]; omega), hd, e3]
  refine ⟨fun e => by rw [e] at hy; omega, fun r er => ⟨fun c => ?_, fun c => ⟨fun c2 => ?_, fun c2 => ?_⟩⟩⟩
  · subst er
    rw [xorI (by omega)] at c
    have e : x / y = I (x.toInt / y.toInt) := eI (by rw [hd, Int.tdiv_eq_ediv_of_nonneg c])
    show post _ M
    rw [e]; exact h
  · subst er
    rw [eqI, hm] at c2
    have h3 : y.toInt ∣ x.toInt := Int.dvd_of_tmod_eq_zero (by omega)
    have e : x / y = I (x.toInt / y.toInt) := eI (by rw [hd, Int.tdiv_eq_ediv_of_dvd h3])
    show post _ M
    rw [e]; exact h
  · subst er
    rw [xorI (by omega)] at c
    rw [eqI, hm] at c2
    have h4 := hsg.2 (by omega)
    have h8 : x.toInt / y.toInt = x.toInt.tdiv y.toInt - 1 := by
      have h5 : x.toInt = (x.toInt.tmod y.toInt + y.toInt) + y.toInt * (x.toInt.tdiv y.toInt - 1) := by
        rw [Int.mul_sub, Int.mul_one]; omega
      rw [h5, Int.add_mul_ediv_left _ _ (by omega), Int.ediv_eq_zero_of_lt (by omega) (by omega), ← h5]
      omega
    have hq : -2147483648 ≤ x.toInt / y.toInt ∧ x.toInt / y.toInt < 2147483648 := by
      constructor
      · have := Int.le_ediv_of_mul_le hy (a := -2147483648) (b := x.toInt) (by
          have : (-2147483648 : Int) * y.toInt ≤ -2147483648 := by omega
          omega)
        exact this
      · have := Int.ediv_lt_of_lt_mul hy (a := x.toInt) (b := 1) (by omega)
        omega
    have e1 : (1 : Int32).toInt = 1 := rfl
    have e : x / y - (1 : Int32) = I (x.toInt / y.toInt) := eI (by
      rw [subI (by rw [hd, e1]; omega) (by rw [hd, e1]; omega), hd, e1]; omega)
    rw [e]; exact h
