/-! THE REFERENCE, its small methods -/
theorem lit_nI (n : Nat) : (OfNat.ofNat n : Int32) = nI n := rfl
theorem nI_toI {n : Nat} (h : n < 2147483648) : (nI n).toInt = n := nI_toInt h
/-- x lies from lo to hi -/
def inb (x lo hi : Int32) : Bool := decide (lo ≤ x ∧ x ≤ hi)
theorem s_M_in {post : Int32 → Mem → Prop} {x lo hi : Int32} {M : Mem} (h : post (bi (inb x lo hi)) M) : P_M_in post x lo hi M := by
  refine ⟨fun c => ?_, fun c => ⟨fun c2 => ?_, fun c2 => ?_⟩⟩
  · have e : inb x lo hi = false := by rw [ltI] at c; simp only [inb, decide_eq_false_iff_not, leI]; omega
    rw [e] at h; exact ⟨Or.inl rfl, h⟩
  · have e : inb x lo hi = false := by rw [ltI] at c2; simp only [inb, decide_eq_false_iff_not, leI]; omega
    rw [e] at h; exact ⟨Or.inl rfl, h⟩
  · have e : inb x lo hi = true := by rw [ltI] at c c2; simp only [inb, decide_eq_true_eq, leI]; omega
    rw [e] at h; exact ⟨Or.inr rfl, h⟩
theorem s_R_within {post : Int32 → Mem → Prop} {x lo hi : Int32} {M : Mem} (h : post (bi (inb x lo hi)) M) : P_R_within post x lo hi M := by
  refine ⟨fun c => ?_, fun c => ⟨fun c2 => ?_, fun c2 => ?_⟩⟩
  · have e : inb x lo hi = false := by rw [ltI] at c; simp only [inb, decide_eq_false_iff_not, leI]; omega
    rw [e] at h; exact ⟨Or.inl rfl, h⟩
  · have e : inb x lo hi = false := by rw [ltI] at c2; simp only [inb, decide_eq_false_iff_not, leI]; omega
    rw [e] at h; exact ⟨Or.inl rfl, h⟩
  · have e : inb x lo hi = true := by rw [ltI] at c c2; simp only [inb, decide_eq_true_eq, leI]; omega
    rw [e] at h; exact ⟨Or.inr rfl, h⟩
theorem bn0 {b : Bool} {A B : Prop} (hf : b = false → A) (ht : b = true → B) : (¬ bi b = 0 → B) ∧ (bi b = 0 → A) := ⟨fun c => ht (by cases b <;> simp_all [bi]), fun c => hf (by cases b <;> simp_all [bi])⟩
theorem b0n {b : Bool} {A B : Prop} (hf : b = false → A) (ht : b = true → B) : (bi b = 0 → A) ∧ (¬ bi b = 0 → B) := ⟨fun c => hf (by cases b <;> simp_all [bi]), fun c => ht (by cases b <;> simp_all [bi])⟩
theorem vin_nI {n N : Nat} (h : n < N) (hN : N < 2147483648) : vp_in (nI n) N := vp_in_nI h hN
theorem s_M_none {post : Int32 → Mem → Prop} {x : Int32} {c : Nat} {M : Mem} (hc : c < 5966) (h : post (bi (!inb x 0 (M 1 c - 1))) M) : P_M_none post x (nI c) M := by
  refine ⟨vin_nI hc (by omega), s_M_in ?_⟩
  rw [nI_clamp (by omega)]
  exact bn0 (fun e => by rw [e] at h; exact ⟨Or.inr rfl, h⟩) (fun e => by rw [e] at h; exact ⟨Or.inl rfl, h⟩)
/-- the same memory but what was thrown -/
def thr (M : Mem) (k : Int32) : Mem := ms M 0 0 k
theorem s_M_throwsIf {post : Int32 → Mem → Prop} {b : Bool} {k : Int32} {M : Mem} (h : post (bi b) (if b then thr M k else M)) : P_M_throwsIf post (bi b) k M := by
  refine b0n (fun e => ?_) (fun e => ?_)
  · subst e; exact ⟨Or.inl rfl, h⟩
  · subst e; exact fun M1 e1 => by subst e1; exact ⟨Or.inr rfl, h⟩
theorem s_M_noPlace {post : Int32 → Mem → Prop} {x : Int32} {M : Mem} (h : post (bi (!inb x 0 999)) M) : P_M_noPlace post x M := by
  refine s_M_in (bn0 (fun e => ?_) (fun e => ?_))
  · rw [e] at h; exact ⟨Or.inr rfl, h⟩
  · rw [e] at h; exact ⟨Or.inl rfl, h⟩
theorem s_M_noWave {post : Int32 → Mem → Prop} {x : Int32} {M : Mem} (h : post (bi (!inb x 1000 9999)) M) : P_M_noWave post x M := by
  refine s_M_in (bn0 (fun e => ?_) (fun e => ?_))
  · rw [e] at h; exact ⟨Or.inr rfl, h⟩
  · rw [e] at h; exact ⟨Or.inl rfl, h⟩
theorem s_M_noSpeed {post : Int32 → Mem → Prop} {x : Int32} {M : Mem} (h : post (bi (!inb x (-50) 50)) M) : P_M_noSpeed post x M := by
  refine s_M_in (bn0 (fun e => ?_) (fun e => ?_))
  · rw [e] at h; exact ⟨Or.inr rfl, h⟩
  · rw [e] at h; exact ⟨Or.inl rfl, h⟩
/-! the rows of the world by their places -/
theorem ixI (a b c : Nat) : ((OfNat.ofNat a : Int32) + (OfNat.ofNat b : Int32) * nI c) = nI (a + b * c) := by
  rw [lit_nI, lit_nI, pk_mul, nI_add]
theorem s_M_lines {post : Int32 → Mem → Prop} {e : Nat} {M : Mem} (he : e < 6) (h : post (M 1 (93 + 14 * e)) M) : P_M_lines post (nI e) M := by
  intro i1 e1
  have e2 : i1 = nI (93 + 14 * e) := by rw [e1, ixI 92 14 e, lit_nI 1, nI_add]; congr 1; omega
  subst e2
  exact ⟨vin_nI (by omega) (by omega), by rw [nI_clamp (by omega)]; exact h⟩
theorem s_M_waveOf {post : Int32 → Mem → Prop} {e l : Nat} {M : Mem} (he : e < 6) (hl : l < 6) (h : post (M 1 (94 + 14 * e + 2 * l)) M) : P_M_waveOf post (nI e) (nI l) M := by
  intro i1 e1
  have e2 : i1 = nI (94 + 14 * e + 2 * l) := by rw [e1, ixI 92 14 e, lit_nI 2, nI_add, pk_mul, nI_add]; congr 1; omega
  subst e2
  exact ⟨vin_nI (by omega) (by omega), by rw [nI_clamp (by omega)]; exact h⟩
theorem s_M_strengthOf {post : Int32 → Mem → Prop} {e l : Nat} {M : Mem} (he : e < 6) (hl : l < 6) (h : post (M 1 (95 + 14 * e + 2 * l)) M) : P_M_strengthOf post (nI e) (nI l) M := by
  intro i1 e1
  have e2 : i1 = nI (95 + 14 * e + 2 * l) := by rw [e1, ixI 92 14 e, lit_nI 3, nI_add, lit_nI 2, pk_mul, nI_add]; congr 1; omega
  subst e2
  exact ⟨vin_nI (by omega) (by omega), by rw [nI_clamp (by omega)]; exact h⟩
def airB (w : Nat → Int32) (e : Nat) : Bool := decide (w (92 + 14 * e) = 1)
theorem s_M_isAir {post : Int32 → Mem → Prop} {e : Nat} {M : Mem} (he : e < 6) (h : post (bi (airB (M 1) e)) M) : P_M_isAir post (nI e) M := by
  intro i1 e1
  have e2 : i1 = nI (92 + 14 * e) := by rw [e1, ixI 92 14 e]
  subst e2
  refine ⟨vin_nI (by omega) (by omega), ?_⟩
  rw [nI_clamp (by omega)]
  refine ⟨fun c => ?_, fun c => ?_⟩
  · have e : airB (M 1) e = false := by simp [airB, c]
    rw [e] at h; exact ⟨Or.inl rfl, h⟩
  · have e : airB (M 1) e = true := by simp [airB, c]
    rw [e] at h; exact ⟨Or.inr rfl, h⟩
theorem s_M_ofPlate {post : Int32 → Mem → Prop} {p k : Nat} {M : Mem} (hp : p < 3) (hk : k < 5) (h : post (M 1 (176 + 5 * p + k)) M) : P_M_ofPlate post (nI p) (nI k) M := by
  intro i1 e1
  have e2 : i1 = nI (176 + 5 * p + k) := by rw [e1, ixI 176 5 p, nI_add]
  subst e2
  exact ⟨vin_nI (by omega) (by omega), by rw [nI_clamp (by omega)]; exact h⟩
theorem s_M_of {post : Int32 → Mem → Prop} {r k : Nat} {M : Mem} (hr : r < 24) (hk : k < 5) (h : post (M 1 (191 + 5 * r + k)) M) : P_M_of post (nI r) (nI k) M := by
  intro i1 e1
  have e2 : i1 = nI (191 + 5 * r + k) := by rw [e1, ixI 191 5 r, nI_add]
  subst e2
  exact ⟨vin_nI (by omega) (by omega), by rw [nI_clamp (by omega)]; exact h⟩
theorem s_M_readings {post : Int32 → Mem → Prop} {M : Mem} (h : post (M 1 9) M) : P_M_readings post M := ⟨vin_nI (n := 9) (by omega) (by omega), h⟩
/-- a place by the screw: as the machine reckons it -/
def turn (place down period wear phase lag : Int32) : Int32 := place + (if I ((place - phase).toInt % period.toInt) < period / 2 then wear else -wear) + (if down = 1 then lag else 0)
theorem s_M_turned {post : Int32 → Mem → Prop} {x0 x1 x2 x3 x4 x5 : Int32} {M : Mem} (hp : 0 < x2.toInt) (h : post (turn x0 x1 x2 x3 x4 x5) M) : P_M_turned post x0 x1 x2 x3 x4 x5 M := by
  refine s_floorMod hp ⟨fun c => ?_, fun c => ?_⟩
  · have e : ¬ I ((x0 - x4).toInt % x2.toInt) < x2 / 2 := by rw [leI] at c; rw [ltI]; omega
    refine ⟨fun _ => ⟨fun c1 => ?_, fun c1 => ?_⟩, fun c1 => absurd rfl c1⟩
    · have e2 : turn x0 x1 x2 x3 x4 x5 = x0 + -x3 + 0 := by unfold turn; rw [if_neg e, if_neg c1]
      rw [e2] at h; exact h
    · have e2 : turn x0 x1 x2 x3 x4 x5 = x0 + -x3 + x5 := by unfold turn; rw [if_neg e, if_pos c1]
      rw [e2] at h; exact h
  · have e : I ((x0 - x4).toInt % x2.toInt) < x2 / 2 := by rw [leI] at c; rw [ltI]; omega
    refine ⟨fun c1 => absurd c1 (by decide), fun _ => ⟨fun c1 => ?_, fun c1 => ?_⟩⟩
    · have e2 : turn x0 x1 x2 x3 x4 x5 = x0 + x3 + 0 := by unfold turn; rw [if_pos e, if_neg c1]
      rw [e2] at h; exact h
    · have e2 : turn x0 x1 x2 x3 x4 x5 = x0 + x3 + x5 := by unfold turn; rw [if_pos e, if_pos c1]
      rw [e2] at h; exact h
/-- the true place by the world's row w -/
def tpl (w : Nat → Int32) (place down : Int32) : Int32 := turn place down (w 0) (w 1) (w 2) (w 3)
theorem s_M_truePlace {post : Int32 → Mem → Prop} {x1 x2 : Int32} {M : Mem} (hp : 0 < (M 1 0).toInt) (h : post (tpl (M 1) x1 x2) M) : P_M_truePlace post x1 x2 M :=
  ⟨vin_nI (n := 0) (by omega) (by omega), vin_nI (n := 1) (by omega) (by omega), vin_nI (n := 2) (by omega) (by omega), vin_nI (n := 3) (by omega) (by omega), s_M_turned hp h⟩
