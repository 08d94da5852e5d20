/-! THE REFERENCE: seen, left, missed, explained -/
def seB (w lo hi : Nat → Int32) (p : Int32) (v : Int32) (r : Nat) : Bool := decide (w (191 + 5 * r) = p) && inB lo hi r v
def seA (w lo hi : Nat → Int32) (p : Int32) (v : Int32) : Bool := anyB (seB w lo hi p v) (nn (w 9))
theorem s_M_isSeen {post : Int32 → Mem → Prop} {p v : Int32} {M : Mem} (hI : WInv (M 1)) (h : post (bi (seA (M 1) (M 5) (M 6) p v)) M) : P_M_isSeen post p v M := by
  obtain ⟨hn, hn24⟩ := hI.nr
  have key : ∀ (d x : Nat), x + d = nn (M 1 9) → P_M_isSeen_5 post (d + 1) p v (bi (anyB (seB (M 1) (M 5) (M 6) p v) x)) (nI x) M := by
    intro d
    induction d with
    | zero =>
      intro x hx
      refine s_M_readings ⟨fun c => ?_, fun c => ?_⟩
      · refine ⟨bi_01 _, ?_⟩
        rw [show x = nn (M 1 9) by omega]; exact h
      · rw [hn, nI_le_iff (by omega) (by omega)] at c; omega
    | succ d ih =>
      intro x hx
      have hx24 : x < 24 := by omega
      have next : ∀ b : Bool, anyB (seB (M 1) (M 5) (M 6) p v) (x + 1) = b → P_M_isSeen_5 post (d + 1) p v (bi b) (nI x + (1 : Int32)) M := by
        intro b hb
        have := ih (x + 1) (by omega)
        rw [hb, ← nI_1] at this
        exact this
      have e0 : anyB (seB (M 1) (M 5) (M 6) p v) (x + 1) = (anyB (seB (M 1) (M 5) (M 6) p v) x || seB (M 1) (M 5) (M 6) p v x) := rfl
      refine s_M_readings ⟨fun c => ?_, fun c => bn0 (fun cf => s_M_of (k := 0) hx24 (by omega) ⟨fun c2 => ?_, fun c2 => s_M_isIn hx24 (b0n (fun ef => ?_) (fun et => ?_))⟩) (fun ct => ?_)⟩
      · rw [hn, nI_le_iff (by omega) (by omega)] at c; omega
      · exact next false (by rw [e0, cf]; simp only [seB, Bool.false_or, Bool.and_eq_false_iff, decide_eq_false_iff_not]; exact Or.inl c2)
      · exact next false (by rw [e0, cf]; simp only [seB, Bool.false_or, ef, Bool.and_false])
      · exact next true (by rw [e0, cf]; simp only [seB, Bool.false_or, et, Bool.and_true, decide_eq_true_eq]; exact c2)
      · exact next true (by rw [e0, ct]; rfl)
  refine ⟨nn (M 1 9) + 1, ?_⟩
  have := key (nn (M 1 9)) 0 (by omega)
  simpa [anyB, bi, nI_0] using this
/-- bits of readings as both sides gather them -/
def bitF (p : Nat → Bool) : Nat → Int32
  | 0 => 0
  | n + 1 => if p n then bitF p n ||| ((1 : Int32) <<< (nI n &&& 31)) else bitF p n
def lfB (w lo hi : Nat → Int32) (p set speed : Int32) (r : Nat) : Bool := decide (w (191 + 5 * r) = p) && !ghB w r && decide (lnS w lo hi r set speed false = 0)
def lfA (w lo hi : Nat → Int32) (p set speed : Int32) : Int32 := bitF (lfB w lo hi p set speed) (nn (w 9))
theorem lnS_le {w lo hi : Nat → Int32} {r : Nat} {set speed : Int32} {el : Bool} (hI : WInv w) : lnS w lo hi r set speed el ≤ 36 := by
  have h6 := hI.ne.2
  have : ∀ n, n ≤ 6 → sumN (lnI w lo hi r set speed el) n ≤ n * 6 := by
    intro n
    induction n with
    | zero => intro _; simp [sumN]
    | succ n ih =>
      intro hn
      have h1 := ih (by omega)
      have h2 : lnI w lo hi r set speed el n ≤ 6 := by
        have h3 := cntB_le (fun l => inB lo hi r (shf w n l speed)) (nn (w (93 + 14 * n)))
        have h4 := (hI.nl (e := n) (by omega)).2
        unfold lnI lnE
        split
        · split <;> omega
        · omega
      simp only [sumN, Nat.succ_mul]; omega
  have := this _ h6
  unfold lnS
  omega
theorem s_M_leftOf {post : Int32 → Mem → Prop} {p set speed : Int32} {M : Mem} (hI : WInv (M 1)) (h : post (lfA (M 1) (M 5) (M 6) p set speed) M) : P_M_leftOf post p set speed M := by
  obtain ⟨hn, hn24⟩ := hI.nr
  have key : ∀ (d x : Nat), x + d = nn (M 1 9) → P_M_leftOf_6 post (d + 1) p set speed (bitF (lfB (M 1) (M 5) (M 6) p set speed) x) (nI x) M := by
    intro d
    induction d with
    | zero =>
      intro x hx
      refine s_M_readings ⟨fun c => ?_, fun c => ?_⟩
      · rw [show x = nn (M 1 9) by omega]; exact h
      · rw [hn, nI_le_iff (by omega) (by omega)] at c; omega
    | succ d ih =>
      intro x hx
      have hx24 : x < 24 := by omega
      have next : ∀ z : Int32, bitF (lfB (M 1) (M 5) (M 6) p set speed) (x + 1) = z → P_M_leftOf_6 post (d + 1) p set speed z (nI x + (1 : Int32)) M := by
        intro z hz
        have := ih (x + 1) (by omega)
        rw [hz, ← nI_1] at this
        exact this
      have off : lfB (M 1) (M 5) (M 6) p set speed x = false → bitF (lfB (M 1) (M 5) (M 6) p set speed) (x + 1) = bitF (lfB (M 1) (M 5) (M 6) p set speed) x := fun e => by simp [bitF, e]
      have hln := lnS_le (w := M 1) (lo := M 5) (hi := M 6) (r := x) (set := set) (speed := speed) (el := false) hI
      refine s_M_readings ⟨fun c => ?_, fun c => s_M_of (k := 0) hx24 (by omega) ⟨fun c2 => ?_, fun c2 => s_M_isGhost hI hx24 (bn0 (fun cf => s_M_linesIn (el := false) hI hx24 ⟨fun c3 => ?_, fun c3 => ?_⟩) (fun ct => ?_))⟩⟩
      · rw [hn, nI_le_iff (by omega) (by omega)] at c; omega
      · exact next _ (off (by simp only [lfB, Bool.and_eq_false_iff, decide_eq_false_iff_not]; exact Or.inl (Or.inl c2)))
      · refine next _ (off ?_)
        simp only [lfB, Bool.and_eq_false_iff, decide_eq_false_iff_not]
        exact Or.inr (fun e => c3 (by rw [e]; rfl))
      · intro x4 e4
        refine next _ ?_
        have e5 : lfB (M 1) (M 5) (M 6) p set speed x = true := by
          simp only [lfB, cf, Bool.not_false, Bool.and_true, Bool.and_eq_true, decide_eq_true_eq]
          refine ⟨c2, ?_⟩
          have c4 : nI (lnS (M 1) (M 5) (M 6) x set speed false) = nI 0 := c3
          rwa [nI_eq (by omega) (by omega)] at c4
        rw [e4]; simp only [bitF, e5, if_true]
      · exact next _ (off (by simp [lfB, ct]))
  refine ⟨nn (M 1 9) + 1, ?_⟩
  have := key (nn (M 1 9)) 0 (by omega)
  simpa [bitF, nI_0] using this
/-- a line that must be seen and isn't -/
def miB (w lo hi : Nat → Int32) (p : Nat) (set speed : Int32) (e l : Nat) : Bool := inS w set e && moB w p e l speed && !seA w lo hi (nI p) (shf w e l speed)
def miE (w lo hi : Nat → Int32) (p : Nat) (set speed : Int32) (e : Nat) : Nat := cntB (miB w lo hi p set speed e) (nn (w (93 + 14 * e)))
def miS (w lo hi : Nat → Int32) (p : Nat) (set speed : Int32) : Nat := sumN (miE w lo hi p set speed) (nn (w 7))
theorem s_M_missedOf {post : Int32 → Mem → Prop} {p : Nat} {set speed : Int32} {M : Mem} (hI : WInv (M 1)) (hp : p < 3) (h : post (nI (miS (M 1) (M 5) (M 6) p set speed)) M) : P_M_missedOf post (nI p) set speed M := by
  obtain ⟨hn, hn6⟩ := hI.ne
  have key : ∀ (d e : Nat), e + d = nn (M 1 7) → P_M_missedOf_6 post (d + 1) (nI p) set speed (nI (sumN (miE (M 1) (M 5) (M 6) p set speed) e)) (nI e) M := by
    intro d
    induction d with
    | zero =>
      intro e he
      refine ⟨vin_nI (n := 7) (by omega) (by omega), fun c => ?_, fun c => ?_⟩
      · rw [show e = nn (M 1 7) by omega]; exact h
      · exact absurd (show M 1 7 ≤ nI e by rw [hn, nI_le_iff (by omega) (by omega)]; omega) c
    | succ d ih =>
      intro e he
      have he6 : e < 6 := by omega
      obtain ⟨hl, hl6⟩ := hI.nl he6
      have next : ∀ x : Int32, x = nI (sumN (miE (M 1) (M 5) (M 6) p set speed) (e + 1)) → P_M_missedOf_6 post (d + 1) (nI p) set speed x (nI e + (1 : Int32)) M := by
        intro x hx
        have := ih (e + 1) (by omega)
        rw [← nI_1, ← hx] at this
        exact this
      refine ⟨vin_nI (n := 7) (by omega) (by omega), fun c => ?_, fun c => ?_⟩
      · have : nn (M 1 7) ≤ e := by have c' : M 1 7 ≤ nI e := c; rw [hn, nI_le_iff (by omega) (by omega)] at c'; exact c'
        omega
      · have inner : ∀ (f l : Nat), l + f = nn (M 1 (93 + 14 * e)) → P_M_missedOf_21 post (P_M_missedOf_6 post (d + 1)) (f + 1) (nI p) set speed (nI (sumN (miE (M 1) (M 5) (M 6) p set speed) e + cntB (miB (M 1) (M 5) (M 6) p set speed e) l)) (nI e) (nI l) M := by
          intro f
          induction f with
          | zero =>
            intro l hlf
            refine s_M_lines he6 ⟨fun c2 => ?_, fun c2 => ?_⟩
            · refine next _ ?_
              rw [show l = nn (M 1 (93 + 14 * e)) by omega]; rfl
            · exact absurd (show M 1 (93 + 14 * e) ≤ nI l by rw [hl, nI_le_iff (by omega) (by omega)]; omega) c2
          | succ f ih2 =>
            intro l hlf
            have hl6' : l < 6 := by omega
            have nx : ∀ x : Int32, x = nI (sumN (miE (M 1) (M 5) (M 6) p set speed) e + cntB (miB (M 1) (M 5) (M 6) p set speed e) (l + 1)) → P_M_missedOf_21 post (P_M_missedOf_6 post (d + 1)) (f + 1) (nI p) set speed x (nI e) (nI l + (1 : Int32)) M := by
              intro x hx
              have := ih2 (l + 1) (by omega)
              rw [← nI_1, ← hx] at this
              exact this
            have no : miB (M 1) (M 5) (M 6) p set speed e l = false → P_M_missedOf_79 post (P_M_missedOf_6 post (d + 1)) (P_M_missedOf_21 post (P_M_missedOf_6 post (d + 1)) (f + 1)) (nI p) set speed (nI e) (nI l) (nI (sumN (miE (M 1) (M 5) (M 6) p set speed) e + cntB (miB (M 1) (M 5) (M 6) p set speed e) l)) (0 : Int32) M := by
              intro e1 x4 e4
              refine nx _ ?_
              rw [e4]; simp [cntB, e1]
            refine s_M_lines he6 ⟨fun c2 => ?_, fun c2 => s_M_isInSet he6 (b0n (fun c3 => no ?_) (fun c3 => s_M_mustOn hp he6 hl6' (b0n (fun c4 => no ?_) (fun c4 => s_M_shifted he6 hl6' (s_M_isSeen hI (bn0 (fun c5 => ?_) (fun c5 => no ?_)))))))⟩
            · have c3 : M 1 (93 + 14 * e) ≤ nI l := c2
              rw [hl, nI_le_iff (by omega) (by omega)] at c3; omega
            · simp [miB, c3]
            · simp [miB, c4]
            · intro x4 e4
              refine nx _ ?_
              rw [e4]; simp only [cntB, miB, c3, c4, c5, Bool.not_false, Bool.and_self, if_true]
              rw [← Nat.add_assoc]; exact nI_1 _
            · simp [miB, c5]
        refine ⟨nn (M 1 (93 + 14 * e)) + 1, ?_⟩
        have := inner (nn (M 1 (93 + 14 * e))) 0 (by omega)
        simpa [cntB, nI_0] using this
  refine ⟨nn (M 1 7) + 1, ?_⟩
  have := key (nn (M 1 7)) 0 (by omega)
  simpa [sumN, nI_0] using this
theorem miS_le {w lo hi : Nat → Int32} {p : Nat} {set speed : Int32} (hI : WInv w) : miS w lo hi p set speed ≤ 36 := by
  have h6 := hI.ne.2
  have : ∀ n, n ≤ 6 → sumN (miE w lo hi p set speed) n ≤ n * 6 := by
    intro n
    induction n with
    | zero => intro _; simp [sumN]
    | succ n ih =>
      intro hn
      have h1 := ih (by omega)
      have h3 := cntB_le (miB w lo hi p set speed n) (nn (w (93 + 14 * n)))
      have h4 := (hI.nl (e := n) (by omega)).2
      simp only [sumN, Nat.succ_mul, miE] at *; omega
  have := this _ h6
  unfold miS
  omega
def exB (w lo hi : Nat → Int32) (p : Nat) (set speed : Int32) : Bool := decide (lfA w lo hi (nI p) set speed = 0) && decide (miS w lo hi p set speed = 0)
theorem s_M_explainsBy {post : Int32 → Mem → Prop} {p : Nat} {set speed : Int32} {M : Mem} (hI : WInv (M 1)) (hp : p < 3) (h : post (bi (exB (M 1) (M 5) (M 6) p set speed)) M) : P_M_explainsBy post (nI p) set speed M := by
  have hm := miS_le (w := M 1) (lo := M 5) (hi := M 6) (p := p) (set := set) (speed := speed) hI
  refine s_M_leftOf hI ⟨fun c => ?_, fun c => s_M_missedOf hI hp ⟨fun c2 => ?_, fun c2 => ?_⟩⟩
  · have e : exB (M 1) (M 5) (M 6) p set speed = false := by simp [exB, c]
    rw [e] at h; exact ⟨Or.inl rfl, h⟩
  · have e : exB (M 1) (M 5) (M 6) p set speed = false := by
      simp only [exB, Bool.and_eq_false_iff, decide_eq_false_iff_not]
      exact Or.inr (fun e => c2 (by rw [e]; rfl))
    rw [e] at h; exact ⟨Or.inl rfl, h⟩
  · have e : exB (M 1) (M 5) (M 6) p set speed = true := by
      have c3 : nI (miS (M 1) (M 5) (M 6) p set speed) = nI 0 := c2
      rw [nI_eq (by omega) (by omega)] at c3
      simp [exB, c, c3]
    rw [e] at h; exact ⟨Or.inr rfl, h⟩
