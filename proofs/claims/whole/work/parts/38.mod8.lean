/-! THE REFERENCE: amount, wide, sets -/
def allB (p : Nat → Bool) : Nat → Bool
  | 0 => true
  | n + 1 => allB p n && p n
theorem allB_f {p : Nat → Bool} : ∀ {n x : Nat}, x < n → p x = false → allB p n = false
  | n + 1, x, h, hp => by
    simp only [allB, Bool.and_eq_false_iff]
    by_cases e : x = n
    · subst e; exact Or.inr hp
    · exact Or.inl (allB_f (by omega) hp)
theorem allB_t {p : Nat → Bool} : ∀ {n : Nat}, (∀ x, x < n → p x = true) → allB p n = true
  | 0, _ => rfl
  | n + 1, h => by simp only [allB, Bool.and_eq_true]; exact ⟨allB_t (fun x hx => h x (by omega)), h n (by omega)⟩
theorem allB_iff {p : Nat → Bool} {n : Nat} : allB p n = true ↔ ∀ x, x < n → p x = true := by
  refine ⟨fun h x hx => ?_, allB_t⟩
  cases hp : p x with
  | true => rfl
  | false => rw [allB_f hx hp] at h; cases h
theorem anyB_iff {p : Nat → Bool} : ∀ {n : Nat}, anyB p n = true ↔ ∃ x, x < n ∧ p x = true
  | 0 => by simp [anyB]
  | n + 1 => by
    simp only [anyB, Bool.or_eq_true, anyB_iff (n := n)]
    constructor
    · rintro (⟨x, hx, hp⟩ | hp)
      · exact ⟨x, by omega, hp⟩
      · exact ⟨n, by omega, hp⟩
    · rintro ⟨x, hx, hp⟩
      by_cases e : x = n
      · subst e; exact Or.inr hp
      · exact Or.inl ⟨x, by omega, hp⟩
theorem anyB_f {p : Nat → Bool} {n : Nat} : anyB p n = false ↔ ∀ x, x < n → p x = false := by
  constructor
  · intro h x hx
    cases hp : p x with
    | false => rfl
    | true => rw [anyB_iff.mpr ⟨x, hx, hp⟩] at h; cases h
  · intro h
    cases ha : anyB p n with
    | false => rfl
    | true => obtain ⟨x, hx, hp⟩ := anyB_iff.mp ha; rw [h x hx] at hp; cases hp
/-- how strong a line shows at an amount -/
def shw (x0 x1 : Int32) : Int32 := if x0 < 7 then jmin 9 ((x0 * x1) / 5) else if x1 ≤ 6 then jmin 9 ((x0 * x1) / 5) else jmax 0 (jmin 9 ((x0 * x1) / 5) - 2 * (x1 - 6))
theorem s_M_shows {post : Int32 → Mem → Prop} {x0 x1 : Int32} {M : Mem} (h : post (shw x0 x1) M) : P_M_shows post x0 x1 M := by
  unfold shw at h
  refine s_min ⟨fun c => ?_, fun c => ⟨fun c2 => ?_, fun c2 => s_max ?_⟩⟩
  · rw [if_pos c] at h; exact h
  · rw [if_neg c, if_pos c2] at h; exact h
  · rw [if_neg c, if_neg c2] at h; exact h
/-- reading r speaks for the amount n of line l of e -/
def arB (w lo hi : Nat → Int32) (p set : Int32) (e : Nat) (n : Int32) (l r : Nat) : Bool :=
  !(decide (w (191 + 5 * r) = p) && inB lo hi r (w (94 + 14 * e + 2 * l)) && decide (lnS w lo hi r set 0 false = 1)) || decide (jabs (w (194 + 5 * r) - shw (w (95 + 14 * e + 2 * l)) n) ≤ 1)
def alB (w lo hi : Nat → Int32) (p : Nat) (set : Int32) (e : Nat) (n : Int32) (l : Nat) : Bool := !moB w p e l 0 || allB (arB w lo hi (nI p) set e n l) (nn (w 9))
def amB (w lo hi : Nat → Int32) (p : Nat) (set : Int32) (e : Nat) (n : Int32) : Bool := allB (alB w lo hi p set e n) (nn (w (93 + 14 * e)))
theorem s_M_isAmount {post : Int32 → Mem → Prop} {p e : Nat} {set n : Int32} {M : Mem} (hI : WInv (M 1)) (hp : p < 3) (he : e < 6) (h : post (bi (amB (M 1) (M 5) (M 6) p set e n)) M) : P_M_isAmount post (nI p) set (nI e) n M := by
  obtain ⟨hn, hn24⟩ := hI.nr
  obtain ⟨hl, hl6⟩ := hI.nl he
  have key : ∃ j, allB (alB (M 1) (M 5) (M 6) p set e n) 0 = true → P_M_isAmount_3 post j (nI p) set (nI e) n (nI 0) M := by
    refine lpN (R := fun j l => allB (alB (M 1) (M 5) (M 6) p set e n) l = true → P_M_isAmount_3 post j (nI p) set (nI e) n (nI l) M) (N := nn (M 1 (93 + 14 * e))) (fun j ha => ?_) (fun j l hlx ih ha => ?_)
    · refine s_M_lines he (brSt hl ?_)
      have e1 : amB (M 1) (M 5) (M 6) p set e n = true := ha
      rw [e1] at h; exact h
    · have hl6' : l < 6 := by omega
      have skip : alB (M 1) (M 5) (M 6) p set e n l = true → P_M_isAmount_118 post (P_M_isAmount_3 post j) (nI p) set (nI e) n (nI l) M := by
        intro h2
        unfold P_M_isAmount_118
        rw [nI_1]
        exact ih (by simp only [allB, ha, h2, Bool.and_self])
      refine s_M_lines he (brGo hl (by omega) hlx (s_M_mustOn hp he hl6' (bn0 (fun c => ?_) (fun c => ?_))))
      · exact skip (by simp [alB, c])
      · have inner : ∃ j2, allB (arB (M 1) (M 5) (M 6) (nI p) set e n l) 0 = true → P_M_isAmount_31 post (P_M_isAmount_3 post j) j2 (nI p) set (nI e) n (nI l) (nI 0) M := by
          refine lpN (R := fun j2 r => allB (arB (M 1) (M 5) (M 6) (nI p) set e n l) r = true → P_M_isAmount_31 post (P_M_isAmount_3 post j) j2 (nI p) set (nI e) n (nI l) (nI r) M) (N := nn (M 1 9)) (fun j2 hb => ?_) (fun j2 r hr ih2 hb => ?_)
          · refine s_M_readings (brSt hn (skip ?_))
            simp only [alB, c, Bool.not_true, Bool.false_or]; exact hb
          · have hr24 : r < 24 := by omega
            have nx : arB (M 1) (M 5) (M 6) (nI p) set e n l r = true → P_M_isAmount_112 post (P_M_isAmount_3 post j) (P_M_isAmount_31 post (P_M_isAmount_3 post j) j2) (nI p) set (nI e) n (nI l) (nI r) M := by
              intro h2
              unfold P_M_isAmount_112
              rw [nI_1]
              exact ih2 (by simp only [allB, hb, h2, Bool.and_self])
            have hle := lnS_le (w := M 1) (lo := M 5) (hi := M 6) (r := r) (set := set) (speed := 0) (el := false) hI
            refine s_M_readings (brGo hn (by omega) hr (s_M_of (k := 0) hr24 (by omega) ⟨fun c2 => nx ?_, fun c2 => s_M_waveOf he hl6' (s_M_isIn hr24 (b0n (fun c3 => nx ?_) (fun c3 => s_M_linesIn (el := false) hI hr24 ⟨fun c4 => s_M_of (k := 3) hr24 (by omega) (s_M_strengthOf he hl6' (s_M_shows (s_abs ⟨fun c5 => nx ?_, fun c5 => ?_⟩))), fun c4 => nx ?_⟩)))⟩))
            · have c2' : ¬ M 1 (191 + 5 * r) = nI p := c2
              simp [arB, c2']
            · simp [arB, c3]
            · have c5' : jabs (M 1 (194 + 5 * r) - shw (M 1 (95 + 14 * e + 2 * l)) n) ≤ 1 := by rw [show 194 + 5 * r = 191 + 5 * r + 3 by omega]; exact c5
              simp [arB, c5']
            · have c5' : ¬ jabs (M 1 (194 + 5 * r) - shw (M 1 (95 + 14 * e + 2 * l)) n) ≤ 1 := by rw [show 194 + 5 * r = 191 + 5 * r + 3 by omega]; exact c5
              have c2' : M 1 (191 + 5 * r) = nI p := c2
              have c4' : lnS (M 1) (M 5) (M 6) r set 0 false = 1 := by
                rw [show (1 : Int32) = nI 1 from rfl, nI_eq (by omega) (by omega)] at c4; exact c4
              have e1 : arB (M 1) (M 5) (M 6) (nI p) set e n l r = false := by
                simp only [arB, c2', c3, c4', decide_true, Bool.and_self, Bool.not_true, Bool.false_or, decide_eq_false_iff_not]; exact c5'
              have e2 : alB (M 1) (M 5) (M 6) p set e n l = false := by
                simp only [alB, c, Bool.not_true, Bool.false_or]; exact allB_f hr e1
              have e3 : amB (M 1) (M 5) (M 6) p set e n = false := allB_f hlx e2
              rw [e3] at h; exact h
            · have c4' : ¬ lnS (M 1) (M 5) (M 6) r set 0 false = 1 := fun e => c4 (by rw [e]; rfl)
              simp [arB, c4']
        obtain ⟨j2, hj2⟩ := inner
        exact ⟨j2, hj2 rfl⟩
  obtain ⟨j, hj⟩ := key
  exact ⟨j, hj rfl⟩
/-- the least or greatest amount -/
def aoF (is : Nat → Bool) (most : Bool) : Nat → Int32
  | 0 => -1
  | k + 1 => if is (k + 1) && (most || decide (¬ 0 ≤ aoF is most k)) then nI (k + 1) else aoF is most k
def qp1 (b : Bool) (x : Int32) : Int32 × Int32 := if !b then qi 1 0 else qi 0 x
theorem s_M_amount {post : Int32 → Mem → Prop} {p set e : Int32} {most : Bool} {M : Mem} (hI : WInv (M 1)) (h : Qs post M (fun lo hi => qp1 (inb p 0 (M 1 8 - 1) && inb e 0 (M 1 7 - 1)) (aoF (fun n => amB (M 1) lo hi (nn p) (set ||| ((1 : Int32) <<< (e &&& 31))) (nn e) (nI n)) most 9))) : P_M_amount post p set e (bi most) M := by
  have bad : (inb p 0 (M 1 8 - 1) && inb e 0 (M 1 7 - 1)) = false → P_M_amount_31 post p set e (bi most) (bi true) (thr M 0) := fun c => by
    refine tI0n (fun c2 => absurd c2 (by simp)) (fun _ => ?_)
    exact h.bad (fun lo hi => by simp [qp1, c])
  refine th0 (s_M_none (c := 8) (by omega) ?_)
  rw [thr1]
  refine bn0 (fun c => s_M_none (c := 7) (by omega) ?_) (fun c => bad (by simp [bnot' c]))
  rw [thr1]
  refine b0n (fun c2 => ?_) (fun c2 => bad (by simp [bnot' c2]))
  obtain ⟨hp, hp3⟩ := hI.inp (bnot c)
  obtain ⟨he, he7, he6⟩ := hI.ine (bnot c2)
  refine tI0n (b := false) (fun _ => s_sp hI (fun M' hM h0 h1 hL hS => ?_)) (fun c2 => absurd c2 (by simp))
  have hI' : WInv (M' 1) := by rw [h1]; exact hI
  have hpost := h _ _ hS
  simp only [qp1, bnot c, bnot c2] at hpost
  have hpost := hpost M' hM h0
  generalize hf : aoF (fun n => amB (M 1) (M' 5) (M' 6) (nn p) (set ||| ((1 : Int32) <<< (e &&& 31))) (nn e) (nI n)) most = F at hpost
  refine lpN (R := fun j x => P_M_amount_50 post j p set e (bi most) (F x) (nI (x + 1)) M') (N := 9) (fun n => ?_) (fun n x hx ih => ?_) |>.imp (fun j hj => by rw [← hf] at hj; exact hj)
  · exact ⟨fun _ => hpost, fun c => absurd (show (10 : Int32) ≤ nI (9 + 1) by decide) c⟩
  · refine ⟨fun c => ?_, fun _ => ?_⟩
    · rw [show (10 : Int32) = nI 10 from rfl, nI_le_iff (by omega) (by omega)] at c; omega
    have e2 : F (x + 1) = if amB (M 1) (M' 5) (M' 6) (nn p) (set ||| ((1 : Int32) <<< (e &&& 31))) (nn e) (nI (x + 1)) && (most || decide (¬ 0 ≤ F x)) then nI (x + 1) else F x := by rw [← hf]; rfl
    have keep : F (x + 1) = F x → P_M_amount_87 post (P_M_amount_50 post n) p set e (bi most) (F x) (nI (x + 1)) M' := by
      intro h2
      unfold P_M_amount_87
      rw [nI_1, ← h2]; exact ih
    have put : F (x + 1) = nI (x + 1) → P_M_amount_83 post (P_M_amount_50 post n) p set e (bi most) (nI (x + 1)) M' := by
      intro h2
      unfold P_M_amount_83 P_M_amount_87
      rw [h2] at ih
      rw [nI_1]; exact ih
    generalize hs2 : set ||| ((1 : Int32) <<< (e &&& 31)) = s2 at e2 ⊢
    have go : P_M_isAmount (fun r1 M1 => (r1 = 0 → P_M_amount_87 post (P_M_amount_50 post n) p set e (bi most) (F x) (nI (x + 1)) M1) ∧ (¬ r1 = 0 → (¬ bi most = 0 → P_M_amount_83 post (P_M_amount_50 post n) p set e (bi most) (nI (x + 1)) M1) ∧ (bi most = 0 → (0 ≤ F x → P_M_amount_87 post (P_M_amount_50 post n) p set e (bi most) (F x) (nI (x + 1)) M1) ∧ (¬ 0 ≤ F x → P_M_amount_83 post (P_M_amount_50 post n) p set e (bi most) (nI (x + 1)) M1)))) (nI (nn p)) s2 (nI (nn e)) (nI (x + 1)) M' := by
      refine s_M_isAmount hI' hp3 he6 ?_
      rw [h1]
      refine b0n (fun c3 => ?_) (fun c3 => ?_)
      · exact keep (by rw [e2, c3]; simp)
      · refine bn0 (fun c4 => ⟨fun c5 => keep ?_, fun c5 => put ?_⟩) (fun c4 => put ?_)
        · rw [e2, c3, c4]; simp [c5]
        · rw [e2, c3, c4]; simp [c5]
        · rw [e2, c3, c4]; simp
    rw [← hp, ← he] at go
    exact go
/-- wide readings, or such as elements share -/
def wdB (w lo hi : Nat → Int32) (p : Nat) (set : Int32) (sh : Bool) (r : Nat) : Bool := decide (w (191 + 5 * r) = nI p) && (if sh then decide (1 < lnS w lo hi r set 0 true) else decide (w (177 + 5 * p) < w (195 + 5 * r)) && decide (lnS w lo hi r set 0 false < 2))
theorem s_M_wide {post : Int32 → Mem → Prop} {p set : Int32} {sh : Bool} {M : Mem} (hI : WInv (M 1)) (h : Qs post M (fun lo hi => qp1 (inb p 0 (M 1 8 - 1)) (bitF (wdB (M 1) lo hi (nn p) set sh) (nn (M 1 9))))) : P_M_wide post p set (bi sh) M := by
  obtain ⟨hn, hn24⟩ := hI.nr
  refine th0 (s_M_none (c := 8) (by omega) ?_)
  rw [thr1]
  refine tI0n (fun c => s_sp hI (fun M' hM h0 h1 hL hS => ?_)) (fun c => h.bad (fun lo hi => by simp [qp1, bnot' c]))
  obtain ⟨hp, hp3⟩ := hI.inp (bnot c)
  have hI' : WInv (M' 1) := by rw [h1]; exact hI
  have hpost := h _ _ hS
  simp only [qp1, bnot c] at hpost
  have hpost := hpost M' hM h0
  have hn' : M' 1 9 = nI (nn (M 1 9)) := by rw [h1]; exact hn
  generalize hf : wdB (M 1) (M' 5) (M' 6) (nn p) set sh = F at hpost
  refine lpN (R := fun j x => P_M_wide_32 post j p set (bi sh) (bitF F x) (nI x) M') (N := nn (M 1 9)) (fun n => ?_) (fun n x hx ih => ?_)
  · exact s_M_readings (brSt hn' hpost)
  · have hx24 : x < 24 := by omega
    have no : F x = false → P_M_wide_134 post (P_M_wide_32 post n) p set (bi sh) (bitF F x) (nI x) M' := by
      intro h2
      simp only [bitF, h2, Bool.false_eq_true, if_false] at ih
      unfold P_M_wide_134
      rw [nI_1]; exact ih
    have is : ∀ b : Bool, F x = b → P_M_wide_114 post (P_M_wide_32 post n) p set (bi sh) (bitF F x) (nI x) (bi b) M' := by
      intro b hb
      refine b0n (fun c3 => ?_) (fun c3 => ?_)
      · intro x4 e4
        rw [Int32.or_zero] at e4
        subst e4
        exact no (by rw [hb, c3])
      · intro x4 e4
        subst e4
        rw [c3] at hb
        simp only [bitF, hb, if_true] at ih
        unfold P_M_wide_134
        rw [nI_1]; exact ih
    have hle := lnS_le (w := M 1) (lo := M' 5) (hi := M' 6) (r := x) (set := set) (speed := 0) (el := false) hI
    have hle2 := lnS_le (w := M 1) (lo := M' 5) (hi := M' 6) (r := x) (set := set) (speed := 0) (el := true) hI
    refine s_M_readings (brGo hn' (by omega) hx (s_M_of (k := 0) hx24 (by omega) ⟨fun c2 => b0n (fun c3 => ?_) (fun c3 => s_M_linesIn (el := true) hI' hx24 ?_), fun c2 => no ?_⟩))
    · rw [h1] at c2
      have c2' : M 1 (191 + 5 * x) = nI (nn p) := by rw [← hp]; exact c2
      refine s_M_of (k := 4) hx24 (by omega) ?_
      have op : P_M_ofPlate (fun r4 M4 => (M' 1 (191 + 5 * x + 4) ≤ r4 → P_M_wide_113 post (P_M_wide_32 post n) p set (bi sh) (bitF F x) (nI x) M4) ∧ (¬ M' 1 (191 + 5 * x + 4) ≤ r4 → P_M_linesIn (fun r5 M5 => (2 ≤ r5 → P_M_wide_113 post (P_M_wide_32 post n) p set (bi sh) (bitF F x) (nI x) M5) ∧ (¬ 2 ≤ r5 → P_M_wide_114 post (P_M_wide_32 post n) p set (bi sh) (bitF F x) (nI x) 1 M5)) (nI x) set 0 (bi false) M4)) (nI (nn p)) (nI 1) M' := by
        refine s_M_ofPlate hp3 (by omega) ⟨fun c4 => ?_, fun c4 => s_M_linesIn (el := false) hI' hx24 ⟨fun c5 => ?_, fun c5 => ?_⟩⟩
        · refine is false ?_
          rw [h1] at c4
          rw [← hf]
          simp only [wdB, c3, Bool.false_eq_true, if_false, Bool.and_eq_false_iff, decide_eq_false_iff_not]
          refine Or.inr (Or.inl ?_)
          rw [show 177 + 5 * nn p = 176 + 5 * nn p + 1 by omega, show 195 + 5 * x = 191 + 5 * x + 4 by omega, ltI]
          rw [leI] at c4; omega
        · refine is false ?_
          rw [h1, show (2 : Int32) = nI 2 from rfl, nI_le_iff (by omega) (by omega)] at c5
          rw [← hf]
          simp only [wdB, c3, Bool.false_eq_true, if_false, Bool.and_eq_false_iff, decide_eq_false_iff_not]
          exact Or.inr (Or.inr (by omega))
        · refine is true ?_
          rw [h1, show (2 : Int32) = nI 2 from rfl, nI_le_iff (by omega) (by omega)] at c5
          rw [h1] at c4
          rw [← hf]
          simp only [wdB, c3, Bool.false_eq_true, if_false, Bool.and_eq_true, decide_eq_true_eq]
          refine ⟨c2', ?_, by omega⟩
          rw [show 177 + 5 * nn p = 176 + 5 * nn p + 1 by omega, show 195 + 5 * x = 191 + 5 * x + 4 by omega, ltI]
          rw [leI] at c4; omega
      rw [← hp] at op
      exact op
    · rw [h1] at c2 ⊢
      have c2' : M 1 (191 + 5 * x) = nI (nn p) := by rw [← hp]; exact c2
      rw [show (1 : Int32) = nI 1 from rfl, nI_le_iff (by omega) (by omega)]
      refine ⟨fun c4 => is false ?_, fun c4 => is true ?_⟩
      · rw [← hf]
        simp only [wdB, c3, if_true, Bool.and_eq_false_iff, decide_eq_false_iff_not]
        exact Or.inr (by omega)
      · rw [← hf]
        simp only [wdB, c3, if_true, Bool.and_eq_true, decide_eq_true_eq]
        exact ⟨c2', by omega⟩
    · rw [h1, hp] at c2
      have c2' : ¬ M 1 (191 + 5 * x) = nI (nn p) := c2
      rw [← hf]; simp [wdB, c2']
/-- the bits counted, as the JDK counts them -/
def bc1 (x : Int32) : Int32 := x - ((ush x 1) &&& 1431655765)
def bc2 (x : Int32) : Int32 := (x &&& 858993459) + ((ush x 2) &&& 858993459)
def bc3 (x : Int32) : Int32 := (x + (ush x 4)) &&& 252645135
def bc4 (x : Int32) : Int32 := x + ush x 8
def bc5 (x : Int32) : Int32 := x + ush x 16
def bcF (x : Int32) : Int32 := bc5 (bc4 (bc3 (bc2 (bc1 x)))) &&& 63
theorem s_bitCount {post : Int32 → Mem → Prop} {x : Int32} {M : Mem} (h : post (bcF x) M) : P_Integer_bitCount post x M := by
  intro a ha b hb c hc d hd e he
  have e1 : a = bc1 x := ha
  subst e1
  have e2 : b = bc2 (bc1 x) := hb
  subst e2
  have e3 : c = bc3 (bc2 (bc1 x)) := hc
  subst e3
  have e4 : d = bc4 (bc3 (bc2 (bc1 x))) := hd
  subst e4
  have e5 : e = bc5 (bc4 (bc3 (bc2 (bc1 x)))) := he
  subst e5
  exact h
/-- all elements but air -/
def alF (w : Nat → Int32) : Nat → Int32
  | 0 => (1 : Int32) <<< (w 7 &&& 31) - 1
  | e + 1 => if airB w e then alF w e &&& (((1 : Int32) <<< (nI e &&& 31)) ^^^ (-1)) else alF w e
def alA (w : Nat → Int32) : Int32 := alF w (nn (w 7))
/-- the tally of sets: how many, the fewest, sure, may -/
def stF (all : Int32) (ex : Int32 → Bool) : Nat → Int32 × Int32 × Int32 × Int32
  | 0 => (0, -1, 0, 0)
  | x + 1 => if decide (nI x &&& (all ^^^ (-1)) = 0) && ex (nI x) then
      ((stF all ex x).1 + 1, (if decide ((stF all ex x).2.1 < 0) || decide (¬ bcF (stF all ex x).2.1 ≤ bcF (nI x)) then nI x else (stF all ex x).2.1), (if (stF all ex x).1 = 0 then nI x else (stF all ex x).2.2.1 &&& nI x), (stF all ex x).2.2.2 ||| nI x)
    else stF all ex x
theorem alF_bd : ∀ n, n ≤ 6 → ∀ x : Int32, x = (1 : Int32) <<< (nI n &&& 31) - 1 → rg x 0 63 := by
  intro n hn x hx
  have : n = 0 ∨ n = 1 ∨ n = 2 ∨ n = 3 ∨ n = 4 ∨ n = 5 ∨ n = 6 := by omega
  subst hx
  rcases this with h | h | h | h | h | h | h <;> subst h <;> exact ⟨by decide, by decide⟩
theorem and_bd {x y : Int32} {b : Int} (h : rg x 0 b) : rg (x &&& y) 0 b := by
  obtain ⟨h1, h2⟩ := h
  have hm : x.toBitVec.msb = false := by rw [signI]; simpa using h1
  have hm2 : (x &&& y).toBitVec.msb = false := by rw [Int32.toBitVec_and, BitVec.msb_and, hm]; rfl
  have e1 : x.toInt = x.toBitVec.toNat := by
    show x.toBitVec.toInt = _
    rw [BitVec.toInt_eq_msb_cond, hm]; rfl
  have e2 : (x &&& y).toInt = (x &&& y).toBitVec.toNat := by
    show (x &&& y).toBitVec.toInt = _
    rw [BitVec.toInt_eq_msb_cond, hm2]; rfl
  have e3 : (x &&& y).toBitVec.toNat ≤ x.toBitVec.toNat := by
    rw [Int32.toBitVec_and, BitVec.toNat_and]; exact Nat.and_le_left
  exact ⟨by omega, by omega⟩
theorem alF_rg {w : Nat → Int32} (hI : WInv w) : ∀ n, rg (alF w n) 0 63
  | 0 => alF_bd (nn (w 7)) hI.ne.2 _ (by rw [← hI.ne.1]; rfl)
  | n + 1 => by
    have h := alF_rg hI n
    simp only [alF]
    split
    · exact and_bd h
    · exact h
