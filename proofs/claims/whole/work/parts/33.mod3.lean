/-! THE REFERENCE: spans, lines in readings, what is left and missed; over any rows lo, hi of spans -/
def spB (lo hi : Nat → Int32) (r : Nat) : Bool := decide (¬ lo r = -99999) || decide (¬ hi r = -99999)
def inB (lo hi : Nat → Int32) (r : Nat) (v : Int32) : Bool := spB lo hi r && inb v (lo r) (hi r)
theorem s_M_hasSpan {post : Int32 → Mem → Prop} {r : Nat} {M : Mem} (hr : r < 24) (h : post (bi (spB (M 5) (M 6) r)) M) : P_M_hasSpan post (nI r) M := by
  have hv : vp_in (nI r) 24 := vin_nI hr (by omega)
  unfold P_M_hasSpan
  rw [nI_clamp (by omega)]
  refine ⟨hv, fun c => ?_, fun c => ⟨hv, fun c2 => ?_, fun c2 => ?_⟩⟩
  · have e : spB (M 5) (M 6) r = true := by simp [spB, c]
    rw [e] at h; exact ⟨Or.inr rfl, h⟩
  · have e : spB (M 5) (M 6) r = false := by simp [spB, c, c2]
    rw [e] at h; exact ⟨Or.inl rfl, h⟩
  · have e : spB (M 5) (M 6) r = true := by simp [spB, c2]
    rw [e] at h; exact ⟨Or.inr rfl, h⟩
theorem s_M_isIn {post : Int32 → Mem → Prop} {r : Nat} {v : Int32} {M : Mem} (hr : r < 24) (h : post (bi (inB (M 5) (M 6) r v)) M) : P_M_isIn post (nI r) v M := by
  have hv : vp_in (nI r) 24 := vin_nI hr (by omega)
  refine s_M_hasSpan hr (b0n (fun e => ?_) (fun e => ⟨hv, hv, ?_⟩))
  · have e2 : inB (M 5) (M 6) r v = false := by simp [inB, e]
    rw [e2] at h; exact ⟨Or.inl rfl, h⟩
  · rw [nI_clamp (by omega)]
    refine s_M_in (b0n (fun e3 => ?_) (fun e3 => ?_))
    · have e2 : inB (M 5) (M 6) r v = false := by simp [inB, e, e3]
      rw [e2] at h; exact ⟨Or.inl rfl, h⟩
    · have e2 : inB (M 5) (M 6) r v = true := by simp [inB, e, e3]
      rw [e2] at h; exact ⟨Or.inr rfl, h⟩
/-- where a line lies at a speed -/
def shf (w : Nat → Int32) (e l : Nat) (speed : Int32) : Int32 := if airB w e then w (94 + 14 * e + 2 * l) else (w (94 + 14 * e + 2 * l) * (1000 + speed)) / 1000
theorem s_M_shifted {post : Int32 → Mem → Prop} {e l : Nat} {v : Int32} {M : Mem} (he : e < 6) (hl : l < 6) (h : post (shf (M 1) e l v) M) : P_M_shifted post (nI e) (nI l) v M := by
  refine s_M_isAir he (b0n (fun c => s_M_waveOf he hl ?_) (fun c => s_M_waveOf he hl ?_))
  · simp only [shf, c] at h; exact h
  · simp only [shf, c] at h; exact h
/-- must it be seen -/
def msB (w : Nat → Int32) (e l : Nat) (speed time slit from_ to_ : Int32) : Bool := inb (shf w e l speed) from_ to_ && decide (¬ (w (95 + 14 * e + 2 * l) * time) * slit < 30)
theorem s_M_mustBe {post : Int32 → Mem → Prop} {e l : Nat} {v x4 x5 x6 x7 : Int32} {M : Mem} (he : e < 6) (hl : l < 6) (h : post (bi (msB (M 1) e l v x4 x5 x6 x7)) M) : P_M_mustBe post (nI e) (nI l) v x4 x5 x6 x7 M := by
  refine s_M_shifted he hl (s_M_in (b0n (fun c => ?_) (fun c => s_M_strengthOf he hl ⟨fun c2 => ?_, fun c2 => ?_⟩)))
  · have e2 : msB (M 1) e l v x4 x5 x6 x7 = false := by simp [msB, c]
    rw [e2] at h; exact ⟨Or.inl rfl, h⟩
  · have e2 : msB (M 1) e l v x4 x5 x6 x7 = false := by simp [msB, c2]
    rw [e2] at h; exact ⟨Or.inl rfl, h⟩
  · have e2 : msB (M 1) e l v x4 x5 x6 x7 = true := by simp only [msB, c, Bool.true_and, decide_eq_true_eq]; exact c2
    rw [e2] at h; exact ⟨Or.inr rfl, h⟩
def moB (w : Nat → Int32) (p e l : Nat) (speed : Int32) : Bool := msB w e l speed (w (176 + 5 * p)) (w (177 + 5 * p)) (w (178 + 5 * p)) (w (179 + 5 * p))
theorem s_M_mustOn {post : Int32 → Mem → Prop} {p e l : Nat} {v : Int32} {M : Mem} (hp : p < 3) (he : e < 6) (hl : l < 6) (h : post (bi (moB (M 1) p e l v)) M) : P_M_mustOn post (nI p) (nI e) (nI l) v M := by
  refine s_M_ofPlate (k := 0) hp (by omega) (s_M_ofPlate (k := 1) hp (by omega) (s_M_ofPlate (k := 2) hp (by omega) (s_M_ofPlate (k := 3) hp (by omega) (s_M_mustBe he hl ⟨bi_01 _, ?_⟩))))
  have e1 : 176 + 5 * p + 1 = 177 + 5 * p := by omega
  have e2 : 176 + 5 * p + 2 = 178 + 5 * p := by omega
  have e3 : 176 + 5 * p + 3 = 179 + 5 * p := by omega
  rw [e1, e2, e3]
  exact h
/-- the bit e of a set -/
def tb (x : Int32) (e : Nat) : Bool := decide ((x >>> (nI e &&& 31)) &&& 1 = 1)
def inS (w : Nat → Int32) (set : Int32) (e : Nat) : Bool := airB w e || tb set e
theorem s_M_isInSet {post : Int32 → Mem → Prop} {set : Int32} {e : Nat} {M : Mem} (he : e < 6) (h : post (bi (inS (M 1) set e)) M) : P_M_isInSet post set (nI e) M := by
  refine s_M_isAir he (bn0 (fun c => ⟨fun c2 => ?_, fun c2 => ?_⟩) (fun c => ?_))
  · have e2 : inS (M 1) set e = false := by simp only [inS, c, tb, Bool.false_or, decide_eq_false_iff_not]; exact c2
    rw [e2] at h; exact ⟨Or.inl rfl, h⟩
  · have e2 : inS (M 1) set e = true := by simp only [inS, c, tb, Bool.false_or, decide_eq_true_eq]; exact c2
    rw [e2] at h; exact ⟨Or.inr rfl, h⟩
  · have e2 : inS (M 1) set e = true := by simp [inS, c]
    rw [e2] at h; exact ⟨Or.inr rfl, h⟩
def cntB (p : Nat → Bool) : Nat → Nat
  | 0 => 0
  | n + 1 => cntB p n + (if p n then 1 else 0)
def sumN (f : Nat → Nat) : Nat → Nat
  | 0 => 0
  | n + 1 => sumN f n + f n
theorem cntB_le (p : Nat → Bool) : ∀ n, cntB p n ≤ n
  | 0 => Nat.le_refl _
  | n + 1 => by have := cntB_le p n; simp only [cntB]; split <;> omega
theorem sumN_le {f : Nat → Nat} {c : Nat} (h : ∀ k, f k ≤ c) : ∀ n, sumN f n ≤ n * c
  | 0 => by simp [sumN]
  | n + 1 => by have h1 := sumN_le h n; have h2 := h n; simp only [sumN, Nat.succ_mul]; omega
def lnE (w lo hi : Nat → Int32) (r : Nat) (speed : Int32) (e : Nat) : Nat := cntB (fun l => inB lo hi r (shf w e l speed)) (nn (w (93 + 14 * e)))
def lnI (w lo hi : Nat → Int32) (r : Nat) (set speed : Int32) (el : Bool) (e : Nat) : Nat := if inS w set e then (if el then min (lnE w lo hi r speed e) 1 else lnE w lo hi r speed e) else 0
def lnS (w lo hi : Nat → Int32) (r : Nat) (set speed : Int32) (el : Bool) : Nat := sumN (lnI w lo hi r set speed el) (nn (w 7))
theorem s_M_linesIn {post : Int32 → Mem → Prop} {r : Nat} {set speed : Int32} {el : Bool} {M : Mem} (hI : WInv (M 1)) (hr : r < 24) (h : post (nI (lnS (M 1) (M 5) (M 6) r set speed el)) M) : P_M_linesIn post (nI r) set speed (bi el) M := by
  obtain ⟨hn, hn6⟩ := hI.ne
  have key : ∀ (d e : Nat), e + d = nn (M 1 7) → P_M_linesIn_6 post (d + 1) (nI r) set speed (bi el) (nI (sumN (lnI (M 1) (M 5) (M 6) r set speed el) e)) (nI e) M := by
    intro d
    induction d with
    | zero =>
      intro e he
      refine ⟨vin_nI (n := 7) (by omega) (by omega), fun c => ?_, fun c => ?_⟩
      · rw [show e = nn (M 1 7) by omega]; exact h
      · exact absurd (show M 1 7 ≤ nI e by rw [hn, nI_le_iff (by omega) (by omega)]; omega) c
    | succ d ih =>
      intro e he
      have he6 : e < 6 := by omega
      obtain ⟨hl, hl6⟩ := hI.nl he6
      have next : ∀ x : Int32, x = nI (sumN (lnI (M 1) (M 5) (M 6) r set speed el) (e + 1)) → P_M_linesIn_6 post (d + 1) (nI r) set speed (bi el) x (nI e + (1 : Int32)) M := by
        intro x hx
        have := ih (e + 1) (by omega)
        rw [← nI_1, ← hx] at this
        exact this
      have e0 : sumN (lnI (M 1) (M 5) (M 6) r set speed el) (e + 1) = sumN (lnI (M 1) (M 5) (M 6) r set speed el) e + lnI (M 1) (M 5) (M 6) r set speed el e := rfl
      refine ⟨vin_nI (n := 7) (by omega) (by omega), fun c => ?_, fun c => s_M_isInSet he6 (bn0 (fun cf => ?_) (fun ct => ?_))⟩
      · have : nn (M 1 7) ≤ e := by have c' : M 1 7 ≤ nI e := c; rw [hn, nI_le_iff (by omega) (by omega)] at c'; exact c'
        omega
      · refine next _ ?_
        rw [e0]; simp [lnI, cf]
      · have inner : ∀ (f l : Nat), l + f = nn (M 1 (93 + 14 * e)) → P_M_linesIn_37 post (P_M_linesIn_6 post (d + 1)) (f + 1) (nI r) set speed (bi el) (nI (sumN (lnI (M 1) (M 5) (M 6) r set speed el) e)) (nI e) (nI (cntB (fun l => inB (M 5) (M 6) r (shf (M 1) e l speed)) l)) (nI l) M := by
          intro f
          induction f with
          | zero =>
            intro l hlf
            have el1 : l = nn (M 1 (93 + 14 * e)) := by omega
            refine s_M_lines he6 ⟨fun c2 => ?_, fun c2 => ?_⟩
            · refine b0n (fun ef => ?_) (fun et => s_min ?_)
              · intro x5 e5
                refine next _ ?_
                rw [e5, e0, nI_add, el1]
                simp [lnI, ct, ef, lnE]
              · intro x5 e5
                refine next _ ?_
                rw [e5, e0, el1]
                simp only [lnI, ct, et, if_true, lnE]
                have hb := cntB_le (fun l => inB (M 5) (M 6) r (shf (M 1) e l speed)) (nn (M 1 (93 + 14 * e)))
                generalize cntB (fun l => inB (M 5) (M 6) r (shf (M 1) e l speed)) (nn (M 1 (93 + 14 * e))) = q at hb ⊢
                have em : jmin (nI q) (1 : Int32) = nI (min q 1) := by
                  rw [eqI, jminI, nI_toI (by omega), nI_toI (by omega)]
                  have : (1 : Int32).toInt = 1 := rfl
                  omega
                rw [em, nI_add]
            · exact absurd (show M 1 (93 + 14 * e) ≤ nI l by rw [hl, nI_le_iff (by omega) (by omega)]; omega) c2
          | succ f ih2 =>
            intro l hlf
            have hl6' : l < 6 := by omega
            have nx : ∀ x : Int32, x = nI (cntB (fun l => inB (M 5) (M 6) r (shf (M 1) e l speed)) (l + 1)) → P_M_linesIn_37 post (P_M_linesIn_6 post (d + 1)) (f + 1) (nI r) set speed (bi el) (nI (sumN (lnI (M 1) (M 5) (M 6) r set speed el) e)) (nI e) x (nI l + (1 : Int32)) M := by
              intro x hx
              have := ih2 (l + 1) (by omega)
              rw [← nI_1, ← hx] at this
              exact this
            refine s_M_lines he6 ⟨fun c2 => ?_, fun c2 => s_M_shifted he6 hl6' (s_M_isIn hr (b0n (fun ef => ?_) (fun et => ?_)))⟩
            · have c3 : M 1 (93 + 14 * e) ≤ nI l := c2
              rw [hl, nI_le_iff (by omega) (by omega)] at c3; omega
            · intro x7 e7
              refine nx _ ?_
              rw [e7]; simp [cntB, ef]
            · intro x7 e7
              refine nx _ ?_
              rw [e7]; simp only [cntB, et, if_true]; exact nI_1 _
        refine ⟨nn (M 1 (93 + 14 * e)) + 1, ?_⟩
        have := inner (nn (M 1 (93 + 14 * e))) 0 (by omega)
        simpa [cntB, nI_0] using this
  refine ⟨nn (M 1 7) + 1, ?_⟩
  have := key (nn (M 1 7)) 0 (by omega)
  simpa [sumN, nI_0] using this
