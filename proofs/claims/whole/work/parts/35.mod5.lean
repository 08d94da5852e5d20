/-! THE REFERENCE: laws. Numbers as I z -/
theorem I_add (a b : Int) : I a + I b = I (a + b) := (Int32.ofInt_add a b).symm
theorem I_mul (a b : Int) : I a * I b = I (a * b) := (Int32.ofInt_mul a b).symm
theorem I_neg (a : Int) : -I a = I (-a) := (Int32.ofInt_neg a).symm
theorem I_sub (a b : Int) : I a - I b = I (a - b) := by rw [Int32.sub_eq_add_neg, I_neg, I_add, Int.sub_eq_add_neg]
theorem I_nat (n : Nat) : (OfNat.ofNat n : Int32) = I n := rfl
theorem nI_I (n : Nat) : nI n = I n := rfl
theorem I_0 : (0 : Int32) = I 0 := rfl
theorem I_1 : (1 : Int32) = I 1 := rfl
theorem I_ofS (x : Int32) : x = I x.toInt := (I_of x).symm
theorem I_lt {a b : Int} (ha : -2147483648 ≤ a ∧ a < 2147483648) (hb : -2147483648 ≤ b ∧ b < 2147483648) : I a < I b ↔ a < b := by rw [ltI, I_toInt ha.1 ha.2, I_toInt hb.1 hb.2]
theorem I_le {a b : Int} (ha : -2147483648 ≤ a ∧ a < 2147483648) (hb : -2147483648 ≤ b ∧ b < 2147483648) : I a ≤ I b ↔ a ≤ b := by rw [leI, I_toInt ha.1 ha.2, I_toInt hb.1 hb.2]
theorem I_eq {a b : Int} (ha : -2147483648 ≤ a ∧ a < 2147483648) (hb : -2147483648 ≤ b ∧ b < 2147483648) : I a = I b ↔ a = b := by rw [eqI, I_toInt ha.1 ha.2, I_toInt hb.1 hb.2]
theorem I_max {a b : Int} (ha : -2147483648 ≤ a ∧ a < 2147483648) (hb : -2147483648 ≤ b ∧ b < 2147483648) : jmax (I a) (I b) = I (max a b) := by
  apply eI; rw [jmaxI, I_toInt ha.1 ha.2, I_toInt hb.1 hb.2]
theorem I_min {a b : Int} (ha : -2147483648 ≤ a ∧ a < 2147483648) (hb : -2147483648 ≤ b ∧ b < 2147483648) : jmin (I a) (I b) = I (min a b) := by
  apply eI; rw [jminI, I_toInt ha.1 ha.2, I_toInt hb.1 hb.2]
theorem I_abs {a : Int} (ha : -2147483648 < a ∧ a < 2147483648) : jabs (I a) = I (if 0 ≤ a then a else -a) := by
  apply eI; rw [jabsI (by rw [I_toInt (by omega) (by omega)]; omega), I_toInt (by omega) (by omega)]
theorem I_div {a b : Int} (ha : 0 ≤ a ∧ a < 2147483648) (hb : 0 < b ∧ b < 2147483648) : I a / I b = I (a / b) := by
  apply eI; rw [divI (by rw [I_toInt (by omega) (by omega)]; omega), I_toInt (by omega) (by omega), I_toInt (by omega) (by omega), Int.tdiv_eq_ediv_of_nonneg ha.1]
theorem I_rem {a b : Int} (ha : 0 ≤ a ∧ a < 2147483648) (hb : 0 < b ∧ b < 2147483648) : irm (I a) (I b) = I (a % b) := by
  apply eI; rw [irmI (by rw [I_toInt (by omega) (by omega)]; omega), I_toInt (by omega) (by omega), I_toInt (by omega) (by omega), Int.tmod_eq_emod_of_nonneg ha.1]
theorem mbd {x y A B : Int} (hx : -A ≤ x ∧ x ≤ A) (hy : -B ≤ y ∧ y ≤ B) : -(A * B) ≤ x * y ∧ x * y ≤ A * B := by
  have h1 : x.natAbs ≤ A.natAbs := by omega
  have h2 : y.natAbs ≤ B.natAbs := by omega
  have h3 := Nat.mul_le_mul h1 h2
  rw [← Int.natAbs_mul, ← Int.natAbs_mul] at h3
  have h4 : 0 ≤ A * B := Int.mul_nonneg (by omega) (by omega)
  omega
/-- the wave above A by slope b and bend c at a true place, ten thousand fold; and rounded down -/
def abN (b c z : Int) : Int := 1000 * b * z + c * z * z
def abZ (b c z : Int) : Int := abN b c z / 10000
theorem abN_bd {b c z : Int} (hb : -90 ≤ b ∧ b ≤ 90) (hc : -9 ≤ c ∧ c ≤ 9) (hz : -1047 ≤ z ∧ z ≤ 1047) : -200000000 ≤ abN b c z ∧ abN b c z ≤ 200000000 := by
  have h1 := mbd (x := 1000 * b) (A := 90000) (B := 1047) (by omega) hz
  have h2 := mbd (A := 9) (B := 1047) hc hz
  have h3 := mbd h2 hz
  unfold abN
  omega
theorem abZ_bd {b c z : Int} (hb : -90 ≤ b ∧ b ≤ 90) (hc : -9 ≤ c ∧ c ≤ 9) (hz : -1047 ≤ z ∧ z ≤ 1047) : -20000 ≤ abZ b c z ∧ abZ b c z ≤ 20000 := by
  have := abN_bd hb hc hz
  unfold abZ
  omega
def kb (k : Nat) : Int := (k / 19 : Nat) + 1
def kc (k : Nat) : Int := (k % 19 : Nat) - 9
theorem kb_bd {k : Nat} (h : k < 1710) : -90 ≤ kb k ∧ kb k ≤ 90 := by unfold kb; omega
theorem kc_bd (k : Nat) : -9 ≤ kc k ∧ kc k ≤ 9 := by unfold kc; omega
theorem s_M_above {post : Int32 → Mem → Prop} {k : Nat} {z : Int} {M : Mem} (hk : k < 1710) (hz : -1047 ≤ z ∧ z ≤ 1047) (h : post (I (abZ (kb k) (kc k) z)) M) : P_M_above post (nI k) (I z) M := by
  intro v1 e1
  have hb := abN_bd (kb_bd hk) (kc_bd k) hz
  refine s_floorDiv (by decide) ?_
  have e2 : nI k / 19 = I ((k / 19 : Nat) : Int) := by rw [nI_I, I_nat 19, I_div (by omega) (by omega)]; rfl
  have e3 : irm (nI k) 19 = I ((k % 19 : Nat) : Int) := by rw [nI_I, I_nat 19, I_rem (by omega) (by omega)]; rfl
  have e4 : v1 + ((irm (nI k) 19 - 9) * I z) * I z = I (abN (kb k) (kc k) z) := by
    rw [e1, e2, e3, I_nat 1000, I_nat 1, I_nat 9, I_add, I_sub, I_mul, I_mul, I_mul, I_mul, I_add]; rfl
  rw [e4, I_toInt (by omega) (by omega)]
  exact h
theorem turn_rg {p d a b c l : Int32} (hp : rg p 0 999) (hb : rg b 0 9) (hl : rg l 0 9) : rg (turn p d a b c l) (-9) 1017 := by
  have e0 : (0 : Int32).toInt = 0 := rfl
  obtain ⟨p1, p2⟩ := hp
  obtain ⟨b1, b2⟩ := hb
  obtain ⟨l1, l2⟩ := hl
  have h1 : ∀ x : Int32, (-9 ≤ x.toInt ∧ x.toInt ≤ 9) → ∀ y : Int32, (0 ≤ y.toInt ∧ y.toInt ≤ 9) → rg (p + x + y) (-9) 1017 := by
    intro x hx y hy
    unfold rg
    rw [addI (by rw [addI (by omega) (by omega)]; omega) (by rw [addI (by omega) (by omega)]; omega), addI (by omega) (by omega)]
    omega
  unfold turn
  refine h1 _ ?_ _ ?_
  · split
    · omega
    · rw [negI (by omega)]; omega
  · split <;> omega
theorem WInv.tp {w : Nat → Int32} (h : WInv w) {p d : Int32} (hp : rg p 0 999) : rg (tpl w p d) (-9) 1017 := turn_rg hp h.2.1 h.2.2.2.1
theorem WInv.er {w : Nat → Int32} (h : WInv w) : rg (w 4) 0 50 := h.2.2.2.2.1
theorem WInv.nk {w : Nat → Int32} (h : WInv w) : w 6 = nI (nn (w 6)) ∧ nn (w 6) ≤ 10 := by
  have h1 := h.2.2.2.2.2.2.1
  obtain ⟨h2, h3⟩ := nn_of h1 (by omega)
  have := h1.2
  exact ⟨h2, by omega⟩
/-- where a known line stands when the spark slipped by s -/
def knZ (w : Nat → Int32) (s : Int) (x : Nat) : Int := (tpl w (w (52 + 4 * x)) (w (53 + 4 * x))).toInt + if w (55 + 4 * x) = 1 then s else 0
/-- what A a known line asks for -/
def rsZ (w : Nat → Int32) (s b c : Int) (x : Nat) : Int := (w (54 + 4 * x)).toInt - abZ b c (knZ w s x)
def loF (w : Nat → Int32) (s b c : Int) : Nat → Int
  | 0 => 0
  | x + 1 => max (loF w s b c x) (rsZ w s b c x - (w 4).toInt)
def hiF (w : Nat → Int32) (s b c : Int) : Nat → Int
  | 0 => 9999
  | x + 1 => min (hiF w s b c x) (rsZ w s b c x + (w 4).toInt)
def loA (w : Nat → Int32) (s b c : Int) : Int := loF w s b c (nn (w 6))
def hiA (w : Nat → Int32) (s b c : Int) : Int := hiF w s b c (nn (w 6))
theorem knZ_bd {w : Nat → Int32} (hI : WInv w) {s : Int} (hs : -30 ≤ s ∧ s ≤ 30) {x : Nat} (hx : x < 10) : -39 ≤ knZ w s x ∧ knZ w s x ≤ 1047 := by
  have h1 := hI.tp (d := w (53 + 4 * x)) (hI.kn hx).1
  unfold knZ
  unfold rg at h1
  split <;> omega
theorem rsZ_bd {w : Nat → Int32} (hI : WInv w) {s b c : Int} (hs : -30 ≤ s ∧ s ≤ 30) (hb : -90 ≤ b ∧ b ≤ 90) (hc : -9 ≤ c ∧ c ≤ 9) {x : Nat} (hx : x < 10) : -30000 ≤ rsZ w s b c x ∧ rsZ w s b c x ≤ 30000 := by
  have h1 := abZ_bd (z := knZ w s x) hb hc (by have := knZ_bd hI hs hx; omega)
  have h2 := (hI.kn hx).2.2.1
  unfold rg at h2
  unfold rsZ
  omega
theorem loF_bd {w : Nat → Int32} (hI : WInv w) {s b c : Int} (hs : -30 ≤ s ∧ s ≤ 30) (hb : -90 ≤ b ∧ b ≤ 90) (hc : -9 ≤ c ∧ c ≤ 9) : ∀ x, x ≤ 10 → 0 ≤ loF w s b c x ∧ loF w s b c x ≤ 31000
  | 0, _ => by simp [loF]
  | x + 1, h => by
    have h1 := loF_bd hI hs hb hc x (by omega)
    have h2 := rsZ_bd hI hs hb hc (x := x) (by omega)
    have h3 := hI.er
    unfold rg at h3
    simp only [loF]
    omega
theorem hiF_bd {w : Nat → Int32} (hI : WInv w) {s b c : Int} (hs : -30 ≤ s ∧ s ≤ 30) (hb : -90 ≤ b ∧ b ≤ 90) (hc : -9 ≤ c ∧ c ≤ 9) : ∀ x, x ≤ 10 → -31000 ≤ hiF w s b c x ∧ hiF w s b c x ≤ 9999
  | 0, _ => by simp [hiF]
  | x + 1, h => by
    have h1 := hiF_bd hI hs hb hc x (by omega)
    have h2 := rsZ_bd hI hs hb hc (x := x) (by omega)
    have h3 := hI.er
    unfold rg at h3
    simp only [hiF]
    omega
def sumZ (f : Nat → Int) : Nat → Int
  | 0 => 0
  | n + 1 => sumZ f n + f n
/-- how many A there are for this b, c -/
def maA (w : Nat → Int32) (s b c : Int) : Int := max 0 (hiA w s b c - loA w s b c + 1)
def toA (w : Nat → Int32) (s : Int) : Int := sumZ (fun k => maA w s (kb k) (kc k)) 1710
/-- the rows of lays: all that differs is in the two rows -/
def LaOK (w : Nat → Int32) (s : Int) (M : Mem) (n : Nat) : Prop := ∀ k, k < n → M 3 k = I (loA w s (kb k) (kc k)) ∧ M 4 k = I (hiA w s (kb k) (kc k))
theorem s_M_lays {post : Int32 → Mem → Prop} {s : Int} {M : Mem} (hI : WInv (M 1)) (hs : -30 ≤ s ∧ s ≤ 30) (h : ∀ M', (∀ c, c ≠ 3 → c ≠ 4 → M' c = M c) → LaOK (M 1) s M' 1710 → post (I (toA (M 1) s)) M') : P_M_lays post (I s) M := by
  obtain ⟨hn, hn10⟩ := hI.nk
  have her := hI.er
  unfold rg at her
  have key : ∀ (d k : Nat), k + d = 1710 → ∀ M', (∀ c, c ≠ 3 → c ≠ 4 → M' c = M c) → LaOK (M 1) s M' k → P_M_lays_4 post (d + 1) (I s) (I (sumZ (fun k => maA (M 1) s (kb k) (kc k)) k)) (nI k) M' := by
    intro d
    induction d with
    | zero =>
      intro k hk M' hM hL
      refine ⟨fun c => ?_, fun c => ?_⟩
      · have e : k = 1710 := by omega
        subst e
        exact h M' hM hL
      · exact absurd (show (1710 : Int32) ≤ nI k by rw [show (1710 : Int32) = nI 1710 from rfl, nI_le_iff (by omega) (by omega)]; omega) c
    | succ d ih =>
      intro k hk M' hM hL
      have hk2 : k < 1710 := by omega
      refine ⟨fun c => ?_, fun c => ?_⟩
      · rw [show (1710 : Int32) = nI 1710 from rfl, nI_le_iff (by omega) (by omega)] at c; omega
      · have e1 : M' 1 = M 1 := hM 1 (by omega) (by omega)
        have inner : ∀ (f x : Nat), x + f = nn (M 1 6) → P_M_lays_22 post (P_M_lays_4 post (d + 1)) (f + 1) (I s) (I (sumZ (fun k => maA (M 1) s (kb k) (kc k)) k)) (nI k) (I (loF (M 1) s (kb k) (kc k) x)) (I (hiF (M 1) s (kb k) (kc k) x)) (nI x) M' := by
          intro f
          induction f with
          | zero =>
            intro x hx
            refine ⟨vin_nI (n := 6) (by omega) (by omega), fun c2 => ?_, fun c2 => ?_⟩
            · refine ⟨vin_nI hk2 (by omega), fun M1 em1 => ⟨vin_nI hk2 (by omega), fun M2 em2 => s_max ?_⟩⟩
              intro x2 ex2
              have hx2 : x = nn (M 1 6) := by omega
              have hlo := loF_bd hI hs (kb_bd hk2) (kc_bd k) x (by omega)
              have hhi := hiF_bd hI hs (kb_bd hk2) (kc_bd k) x (by omega)
              have e3 : x2 = I (sumZ (fun k => maA (M 1) s (kb k) (kc k)) (k + 1)) := by
                rw [ex2, I_sub, I_1, I_add, I_0, I_max (by omega) (by omega), I_add]
                simp only [sumZ, maA, hiA, loA, hx2]
              rw [e3]
              have e4 : nI k + (1 : Int32) = nI (k + 1) := nI_1 k
              rw [e4]
              rw [nI_clamp (by omega)] at em1 em2
              subst em1 em2
              refine ih (k + 1) (by omega) _ (fun c hc3 hc4 => ?_) (fun j hj => ?_)
              · rw [ms_off _ _ _ hc4, ms_off _ _ _ hc3, hM c hc3 hc4]
              · by_cases hj2 : j = k
                · subst hj2
                  constructor
                  · simp [ms, loA, hx2]
                  · simp [ms, hiA, hx2]
                · have := hL j (by omega)
                  constructor
                  · simp [ms, hj2, this.1]
                  · simp [ms, hj2, this.2]
            · exact absurd (show M' 1 6 ≤ nI x by rw [e1, hn, nI_le_iff (by omega) (by omega)]; omega) c2
          | succ f ih2 =>
            intro x hx
            have hx10 : x < 10 := by omega
            refine ⟨vin_nI (n := 6) (by omega) (by omega), fun c2 => ?_, fun c2 => ?_⟩
            · have c3 : M' 1 6 ≤ nI x := c2
              rw [e1, hn, nI_le_iff (by omega) (by omega)] at c3; omega
            · intro x7 e7
              have ea : x7 = nI (52 + 4 * x) := by rw [e7, ixI 52 4 x]
              have eb : x7 + (2 : Int32) = nI (54 + 4 * x) := by rw [ea, lit_nI 2, nI_add]; congr 1; omega
              have ec : x7 + (1 : Int32) = nI (53 + 4 * x) := by rw [ea, lit_nI 1, nI_add]; congr 1; omega
              have ed : x7 + (3 : Int32) = nI (55 + 4 * x) := by rw [ea, lit_nI 3, nI_add]; congr 1; omega
              rw [eb, ec, ed, ea]
              refine ⟨vin_nI (by omega) (by omega), vin_nI (by omega) (by omega), vin_nI (by omega) (by omega), ?_⟩
              rw [nI_clamp (by omega), nI_clamp (by omega), nI_clamp (by omega), nI_clamp (by omega), e1]
              have hrs := rsZ_bd hI hs (kb_bd hk2) (kc_bd k) hx10
              have hkn := knZ_bd hI hs hx10
              have hlo := loF_bd hI hs (kb_bd hk2) (kc_bd k) x (by omega)
              have hhi := hiF_bd hI hs (kb_bd hk2) (kc_bd k) x (by omega)
              have htp := hI.tp (d := M 1 (53 + 4 * x)) (hI.kn hx10).1
              have fin : ∀ z : Int, knZ (M 1) s x = (tpl (M 1) (M 1 (52 + 4 * x)) (M 1 (53 + 4 * x))).toInt + z → P_M_lays_91 post (P_M_lays_4 post (d + 1)) (P_M_lays_22 post (P_M_lays_4 post (d + 1)) (f + 1)) (I s) (I (sumZ (fun k => maA (M 1) s (kb k) (kc k)) k)) (nI k) (I (loF (M 1) s (kb k) (kc k) x)) (I (hiF (M 1) s (kb k) (kc k) x)) (nI x) (M 1 (54 + 4 * x)) (nI k) (tpl (M 1) (M 1 (52 + 4 * x)) (M 1 (53 + 4 * x))) (I z) M' := by
                intro z hz
                unfold P_M_lays_91
                rw [I_ofS (tpl (M 1) (M 1 (52 + 4 * x)) (M 1 (53 + 4 * x))), I_add, ← hz]
                refine s_M_above hk2 (by omega) ?_
                intro x8 e8
                have e9 : x8 = I (rsZ (M 1) s (kb k) (kc k) x) := by rw [e8, I_ofS (M 1 (54 + 4 * x)), I_sub]; rfl
                have e10 : M' 1 (4 : Int32).toNatClampNeg = I (M 1 4).toInt := by rw [e1]; exact I_ofS _
                rw [e10, e9, I_sub]
                refine ⟨vin_nI (n := 4) (by omega) (by omega), s_max ⟨vin_nI (n := 4) (by omega) (by omega), s_min ?_⟩⟩
                rw [I_max (by omega) (by omega), e10, I_add, I_min (by omega) (by omega), nI_1]
                exact ih2 (x + 1) (by omega)
              refine s_M_truePlace (by rw [e1]; exact hI.per) ⟨vin_nI (by omega) (by omega), ?_⟩
              rw [e1]
              refine ⟨fun c3 => ?_, fun c3 => ?_⟩
              · exact fin 0 (by simp [knZ, c3])
              · exact fin s (by simp [knZ, c3])
        refine ⟨nn (M 1 6) + 1, ?_⟩
        have := inner (nn (M 1 6)) 0 (by omega)
        exact this
  refine ⟨1710 + 1, ?_⟩
  have := key 1710 0 (by omega) M (fun c _ _ => rfl) (fun k hk => by omega)
  exact this
