/-! THE REFERENCE: rows, sums, parts, next, misprint -/
def rwS (nu : Int32 → Nat) (s : Int32) (t : Nat × Int32) : Nat × Int32 := if s = 0 then t else if nu s < t.1 then t else if nu s = t.1 ∧ ¬ s < t.2 then t else (nu s, s)
def rwB (nu : Int32 → Nat) (num : Nat → Int32) (a : Nat) (t : Nat × Int32) : Nat → Nat × Int32
  | 0 => t
  | b + 1 => rwS nu (jabs (num a - num b)) (rwB nu num a t b)
def rwA (nu : Int32 → Nat) (num : Nat → Int32) : Nat → Nat × Int32
  | 0 => (0, -1)
  | a + 1 => rwB nu num a (rwA nu num a) a
def rwL (L : List Int32) (off : Int32) : Nat × Int32 := rwA (fun s => nuF L s (s + off)) (numL L) L.length
theorem nuF_le {L : List Int32} {fr to_ : Int32} : nuF L fr to_ ≤ L.length := mxF_le _ _ _
theorem rwB_le {nu : Int32 → Nat} {num : Nat → Int32} {c : Nat} (h : ∀ s, nu s ≤ c) {a : Nat} {t : Nat × Int32} (ht : t.1 ≤ c) : ∀ b, (rwB nu num a t b).1 ≤ c
  | 0 => ht
  | b + 1 => by
    have ih := rwB_le (num := num) h (a := a) ht b
    simp only [rwB, rwS]
    split
    · exact ih
    · split
      · exact ih
      · split
        · exact ih
        · exact h _
theorem rwA_le {nu : Int32 → Nat} {num : Nat → Int32} {c : Nat} (h : ∀ s, nu s ≤ c) : ∀ a, (rwA nu num a).1 ≤ c
  | 0 => by simp [rwA]
  | a + 1 => rwB_le h (rwA_le h a) a
theorem gaL_rg (lo hi : Nat → Int32) (left : Int32) : ∀ r, ∀ x ∈ gaL lo hi left r, rg x 0 10000000
  | 0, x, hx => by simp [gaL] at hx
  | r + 1, x, hx => by
    have ih := gaL_rg lo hi left r
    simp only [gaL] at hx
    split at hx
    · rename_i hc
      simp only [Bool.and_eq_true, decide_eq_true_eq] at hc
      simp only [List.mem_append, List.mem_singleton] at hx
      rcases hx with h | h
      · exact ih x h
      · subst h
        have hb : mdZ lo hi r < 2147483648 := by have := rngI (lo r + hi r); unfold mdZ; omega
        have h1 := hc.2
        rw [show (10000000 : Int32) = I 10000000 from rfl, I_div (by omega) (by omega)]
        have h2 : 0 ≤ 10000000 / mdZ lo hi r := Int.ediv_nonneg (by omega) (by omega)
        have h3 : 10000000 / mdZ lo hi r ≤ 10000000 := Int.ediv_le_self _ (by omega)
        unfold rg
        rw [I_toInt (by omega) (by omega)]
        omega
    · exact ih x hx
/-- the numbers of a plate's unknown lines -/
def gaA (w lo hi : Nat → Int32) (p set : Int32) : List Int32 := gaL lo hi (lfA w lo hi p set 0) (nn (w 9))
theorem gaA_len (w lo hi : Nat → Int32) (p set : Int32) : (gaA w lo hi p set).length ≤ 10 := gaL_len _ _ _ _
theorem FrN.same {M M' : Mem} (h : FrN M M') : MSame M M' := ⟨h.1 1 (by omega) (by omega), h.1 2 (by omega) (by omega), h.1 10 (by omega) (by omega), h.2 3 (by omega), h.2 19 (by omega), h.2 24 (by omega)⟩
theorem s_M_rows {post : Int32 → Mem → Prop} {p set off : Int32} {st : Bool} {M : Mem} (hI : WInv (M 1)) (h : Qs post M (fun lo hi => qpw (M 1) p (inb off 0 999) (if st then (rwL (gaA (M 1) lo hi p set) off).2 else nI (rwL (gaA (M 1) lo hi p set) off).1))) : P_M_rows post p set off (bi st) M := by
  refine th0 (s_qpw hI h (X := P_M_rows_37 post p set off (bi st)) (fun b M' hb => hb) (fun hp hp3 hw M' h1 hS hpost h0 => ?_))
  refine s_M_gathers (by rw [h1]; exact hI) (fun M3 hF hN => ?_)
  rw [h1] at hN
  have hN : NuOK M3 (gaA (M 1) (M' 5) (M' 6) p set) := hN
  have hlen := gaA_len (M 1) (M' 5) (M' 6) p set
  have hrg : ∀ x ∈ gaA (M 1) (M' 5) (M' 6) p set, rg x 0 10000000 := gaL_rg _ _ _ _
  generalize gaA (M 1) (M' 5) (M' 6) p set = L at hN hlen hrg hpost
  have hpost : ∀ M4, (∀ c, c ≠ 8 → M4 c = M3 c) → post (if st then (rwL L off).2 else nI (rwL L off).1) M4 := by
    intro M4 h4
    refine hpost M4 (hF.same.trans (MSame.of fun c hc => h4 c (by omega))) ?_
    rw [h4 0 (by omega), hF.2 0 (by omega)]; exact h0
  have hnu : ∀ s, nuF L s (s + off) ≤ 10 := fun s => Nat.le_trans nuF_le hlen
  generalize hf : rwA (fun s => nuF L s (s + off)) (numL L) = F
  have hFle : ∀ a, (F a).1 ≤ 10 := fun a => by rw [← hf]; exact rwA_le hnu a
  have key : ∃ j, ∀ M4, (∀ c, c ≠ 8 → M4 c = M3 c) → P_M_rows_65 post j off (bi st) (nI (F 0).1) (F 0).2 (nI 0) M4 := by
    refine lpN (R := fun j a => ∀ M4, (∀ c, c ≠ 8 → M4 c = M3 c) → P_M_rows_65 post j off (bi st) (nI (F a).1) (F a).2 (nI a) M4) (N := L.length) (fun n M4 h4 => ?_) (fun n a ha ih M4 h4 => ?_)
    · have hpost := hpost M4 h4
      unfold rwL at hpost
      rw [hf] at hpost
      refine brSt (by rw [h4 0 (by omega)]; exact hN.1) (b0n (fun c => ?_) (fun c => ?_))
      · rw [c] at hpost; exact hpost
      · rw [c] at hpost; exact hpost
    · refine brGo (by rw [h4 0 (by omega)]; exact hN.1) (by omega) ha ?_
      generalize hg : rwB (fun s => nuF L s (s + off)) (numL L) a (F a) = G
      have hGle : ∀ b, (G b).1 ≤ 10 := fun b => by rw [← hg]; exact rwB_le hnu (hFle a) b
      have eG0 : G 0 = F a := by rw [← hg]; rfl
      have eGa : F (a + 1) = G a := by rw [← hg, ← hf]; rfl
      rw [← eG0]
      have inner : ∃ j2, ∀ M5, (∀ c, c ≠ 8 → M5 c = M3 c) → P_M_rows_77 post (P_M_rows_65 post n) j2 off (bi st) (nI (G 0).1) (G 0).2 (nI a) (nI 0) M5 := by
        refine lpN (R := fun j2 b => ∀ M5, (∀ c, c ≠ 8 → M5 c = M3 c) → P_M_rows_77 post (P_M_rows_65 post n) j2 off (bi st) (nI (G b).1) (G b).2 (nI a) (nI b) M5) (N := a) (fun j2 M5 h5 => ?_) (fun j2 b hb ih2 M5 h5 => ?_)
        · refine brSt rfl ?_
          rw [nI_1, ← eGa]; exact ih M5 h5
        · have eG : G (b + 1) = rwS (fun s => nuF L s (s + off)) (jabs (numL L a - numL L b)) (G b) := by rw [← hg]; rfl
          have hN5 : NuOK M5 L := ⟨by rw [h5 0 (by omega)]; exact hN.1, fun k x hx => by rw [h5 7 (by omega)]; exact hN.2 k x hx⟩
          refine brGo rfl (by omega) hb ⟨vin_nI (by omega) (by omega), vin_nI (by omega) (by omega), s_abs ?_⟩
          rw [nI_clamp (by omega), nI_clamp (by omega), hN5.num ha, hN5.num (by omega)]
          generalize jabs (numL L a - numL L b) = s at eG ⊢
          have hGb := hGle b
          refine ⟨fun c => s_M_mostPairs hN5 hlen hrg (fun M6 h6 => ?_), fun c => ?_⟩
          · have h56 : ∀ c, c ≠ 8 → M6 c = M3 c := fun c hc => by rw [h6 c hc, h5 c hc]
            have hnu' := hnu s
            have keep : G (b + 1) = G b → P_M_rows_156 post (P_M_rows_65 post n) (P_M_rows_77 post (P_M_rows_65 post n) j2) off (bi st) (nI (G b).1) (G b).2 (nI a) (nI b) M6 := by
              intro e
              have ih2 := ih2 M6 h56
              rw [e, ← nI_1] at ih2
              exact ih2
            have put : G (b + 1) = (nuF L s (s + off), s) → P_M_rows_148 post (P_M_rows_65 post n) (P_M_rows_77 post (P_M_rows_65 post n) j2) off (bi st) (nI a) (nI b) s (nI (nuF L s (s + off))) M6 := by
              intro e
              have ih2 := ih2 M6 h56
              rw [e, ← nI_1] at ih2
              exact ih2
            rw [ltI, nI_toI (by omega), nI_toI (by omega)]
            refine ⟨fun c2 => keep ?_, fun c2 => ⟨fun c3 => put ?_, fun c3 => ⟨fun c4 => put ?_, fun c4 => keep ?_⟩⟩⟩
            · rw [eG]; unfold rwS; rw [if_neg c, if_pos (by simp only []; omega)]
            · rw [nI_eq (by omega) (by omega)] at c3
              rw [eG]; unfold rwS; rw [if_neg c, if_neg (by simp only []; omega), if_neg (fun h => c3 h.1)]
            · rw [eG]; unfold rwS; rw [if_neg c, if_neg (by simp only []; omega), if_neg (fun h => h.2 c4)]
            · rw [nI_eq (by omega) (by omega)] at c3
              rw [eG]; unfold rwS; rw [if_neg c, if_neg (by simp only []; omega), if_pos ⟨c3, c4⟩]
          · have ih2 := ih2 M5 h5
            have e : G (b + 1) = G b := by rw [eG]; unfold rwS; rw [if_pos c]
            rw [e, ← nI_1] at ih2
            exact ih2
      obtain ⟨j2, hj2⟩ := inner
      exact ⟨j2, hj2 M4 h4⟩
  obtain ⟨j, hj⟩ := key
  rw [← hf] at hj
  exact ⟨j, hj M3 (fun c _ => rfl)⟩
/-! sums -/
def smB (num : Nat → Int32) (off : Int32) (a b c : Nat) : Bool := decide (jabs (num a + num b + num c - 2 * num a) ≤ off) || decide (jabs (num a + num b + num c - 2 * num b) ≤ off) || decide (jabs (num a + num b + num c - 2 * num c) ≤ off)
def smF (num : Nat → Int32) (off : Int32) (n : Nat) : Nat := sumN (fun a => sumN (fun b => cntB (smB num off a b) b) a) n
theorem cntB_bd (p : Nat → Bool) (n : Nat) : cntB p n ≤ n := cntB_le p n
theorem sumN_bd {f : Nat → Nat} {c : Nat} : ∀ n, (∀ k, k < n → f k ≤ c) → sumN f n ≤ n * c
  | 0, _ => by simp [sumN]
  | n + 1, h => by
    have h1 := sumN_bd n (fun k hk => h k (by omega))
    have h2 := h n (by omega)
    simp only [sumN, Nat.succ_mul]; omega
theorem s_M_sums {post : Int32 → Mem → Prop} {p set off : Int32} {M : Mem} (hI : WInv (M 1)) (h : Qs post M (fun lo hi => qpw (M 1) p (inb off 0 999) (nI (smF (numL (gaA (M 1) lo hi p set)) off (gaA (M 1) lo hi p set).length)))) : P_M_sums post p set off M := by
  refine th0 (s_qpw hI h (X := P_M_sums_37 post p set off) (fun b M' hb => hb) (fun hp hp3 hw M' h1 hS hpost h0 => ?_))
  refine s_M_gathers (by rw [h1]; exact hI) (fun M3 hF hN => ?_)
  rw [h1] at hN
  have hN : NuOK M3 (gaA (M 1) (M' 5) (M' 6) p set) := hN
  have hlen := gaA_len (M 1) (M' 5) (M' 6) p set
  have hpost := hpost M3 hF.same (by rw [hF.2 0 (by omega)]; exact h0)
  generalize gaA (M 1) (M' 5) (M' 6) p set = L at hN hlen hpost
  refine lpN (R := fun j a => P_M_sums_62 post j off (nI (smF (numL L) off a)) (nI a) M3) (N := L.length) (fun n => ?_) (fun n a ha ih => ?_)
  · exact brSt hN.1 hpost
  · refine brGo hN.1 (by omega) ha ?_
    refine lpN (R := fun j b => P_M_sums_74 post (P_M_sums_62 post n) j off (nI (smF (numL L) off a + sumN (fun b => cntB (smB (numL L) off a b) b) b)) (nI a) (nI b) M3) (N := a) (fun m => ?_) (fun m b hb ih2 => ?_)
    · refine brSt rfl ?_
      rw [nI_1]; exact ih
    · refine brGo rfl (by omega) hb ?_
      refine lpN (R := fun j c => P_M_sums_84 post (P_M_sums_62 post n) (P_M_sums_74 post (P_M_sums_62 post n) m) j off (nI (smF (numL L) off a + sumN (fun b => cntB (smB (numL L) off a b) b) b + cntB (smB (numL L) off a b) c)) (nI a) (nI b) (nI c) M3) (N := b) (fun k => ?_) (fun k c hc ih3 => ?_)
      · refine brSt rfl ?_
        rw [nI_1, Nat.add_assoc]; exact ih2
      · have yes : ∀ q : Bool, smB (numL L) off a b c = q → P_M_sums_178 post (P_M_sums_62 post n) (P_M_sums_74 post (P_M_sums_62 post n) m) (P_M_sums_84 post (P_M_sums_62 post n) (P_M_sums_74 post (P_M_sums_62 post n) m) k) off (nI (smF (numL L) off a + sumN (fun b => cntB (smB (numL L) off a b) b) b + cntB (smB (numL L) off a b) c)) (nI a) (nI b) (nI c) (bi q) M3 := by
          intro q hq
          refine b0n (fun c1 x4 e4 => ?_) (fun c1 x4 e4 => ?_)
          · rw [Int32.add_zero] at e4
            subst e4
            rw [nI_1]
            simp only [cntB, hq, c1] at ih3
            exact ih3
          · rw [nI_1] at e4
            subst e4
            rw [nI_1]
            simp only [cntB, hq, c1, if_true] at ih3
            exact ih3
        refine brGo rfl (by omega) hc ⟨vin_nI (by omega) (by omega), vin_nI (by omega) (by omega), vin_nI (by omega) (by omega), fun v1 e1 => ⟨vin_nI (by omega) (by omega), s_abs ?_⟩⟩
        rw [nI_clamp (by omega), nI_clamp (by omega), nI_clamp (by omega), hN.num ha, hN.num (by omega), hN.num (by omega)] at e1
        rw [nI_clamp (by omega), nI_clamp (by omega), nI_clamp (by omega), hN.num ha, e1]
        refine ⟨fun c1 => yes true ?_, fun c1 => ⟨vin_nI (by omega) (by omega), s_abs ?_⟩⟩
        · simp [smB, c1]
        rw [hN.num (show b < L.length by omega)]
        refine ⟨fun c2 => yes true ?_, fun c2 => ⟨vin_nI (by omega) (by omega), s_abs ?_⟩⟩
        · simp [smB, c2]
        rw [hN.num (show c < L.length by omega)]
        refine ⟨fun c3 => yes false ?_, fun c3 => yes true ?_⟩
        · have c3' : ¬ jabs (numL L a + numL L b + numL L c - 2 * numL L c) ≤ off := by rw [leI]; rw [ltI] at c3; omega
          simp only [smB, decide_eq_false c1, decide_eq_false c2, decide_eq_false c3', Bool.or_self]
        · have c3' : jabs (numL L a + numL L b + numL L c - 2 * numL L c) ≤ off := by rw [leI]; rw [ltI] at c3; omega
          simp [smB, c3']
/-! parts, next -/
def fzB (w : Nat → Int32) (other : Int32) (v far : Int32) (x y : Nat) : Bool := !inS w other x || decide (¬ jabs (w (94 + 14 * x + 2 * y) - v) ≤ far)
def fzX (w : Nat → Int32) (other : Int32) (v far : Int32) (x : Nat) : Bool := allB (fzB w other v far x) (nn (w (93 + 14 * x)))
def fzA (w : Nat → Int32) (other : Int32) (v far : Int32) : Bool := allB (fzX w other v far) (nn (w 7))
def ptL (w : Nat → Int32) (set other time slit from_ to_ : Int32) (e l : Nat) : Bool := tb set e && msB w e l 0 time slit from_ to_ && fzA w other (w (94 + 14 * e + 2 * l)) (2 * slit)
def ptE (w : Nat → Int32) (set other time slit from_ to_ : Int32) (e : Nat) : Bool := anyB (ptL w set other time slit from_ to_ e) (nn (w (93 + 14 * e)))
def ptA (w : Nat → Int32) (set other time slit from_ to_ : Int32) : Bool := anyB (ptE w set other time slit from_ to_) (nn (w 7))
theorem s_M_parts {post : Int32 → Mem → Prop} {set other time slit from_ to_ : Int32} {M : Mem} (hI : WInv (M 1)) (h : post (bi (ptA (M 1) set other time slit from_ to_)) M) : P_M_parts post set other time slit from_ to_ M := by
  obtain ⟨hn, hn6⟩ := hI.ne
  have key : ∃ j, anyB (ptE (M 1) set other time slit from_ to_) 0 = false → P_M_parts_3 post j set other time slit from_ to_ (nI 0) M := by
    refine lpN (R := fun j e => anyB (ptE (M 1) set other time slit from_ to_) e = false → P_M_parts_3 post j set other time slit from_ to_ (nI e) M) (N := nn (M 1 7)) (fun n hz => ?_) (fun n e he ih hz => ?_)
    · refine ⟨vin_nI (n := 7) (by omega) (by omega), brSt hn ?_⟩
      have e1 : ptA (M 1) set other time slit from_ to_ = false := hz
      rw [e1] at h; exact h
    · have he6 : e < 6 := by omega
      obtain ⟨hl, hl6⟩ := hI.nl he6
      refine ⟨vin_nI (n := 7) (by omega) (by omega), brGo hn (by omega) he ?_⟩
      have k2 : ∃ j, anyB (ptL (M 1) set other time slit from_ to_ e) 0 = false → P_M_parts_18 post (P_M_parts_3 post n) j set other time slit from_ to_ (nI e) (nI 0) M := by
        refine lpN (R := fun j l => anyB (ptL (M 1) set other time slit from_ to_ e) l = false → P_M_parts_18 post (P_M_parts_3 post n) j set other time slit from_ to_ (nI e) (nI l) M) (N := nn (M 1 (93 + 14 * e))) (fun m hy => ?_) (fun m l hlx ih2 hy => ?_)
        · refine s_M_lines he6 (brSt hl ?_)
          rw [nI_1]
          exact ih (by simp only [anyB, hz, Bool.false_or]; exact hy)
        · have hl6' : l < 6 := by omega
          have no : ptL (M 1) set other time slit from_ to_ e l = false → P_M_parts_160 post (P_M_parts_3 post n) (P_M_parts_18 post (P_M_parts_3 post n) m) set other time slit from_ to_ (nI e) (nI l) M := by
            intro h2
            unfold P_M_parts_160
            rw [nI_1]
            exact ih2 (by simp only [anyB, hy, h2, Bool.or_self])
          refine s_M_lines he6 (brGo hl (by omega) hlx ⟨fun c => no ?_, fun c => s_M_mustBe he6 hl6' (bn0 (fun c2 => no ?_) (fun c2 => ?_))⟩)
          · simp [ptL, tb_0.mp c]
          · simp [ptL, c2]
          · have c : tb set e = true := by
              cases ht : tb set e with
              | true => rfl
              | false => exact absurd (tb_0.mpr ht) c
            have epl : ptL (M 1) set other time slit from_ to_ e l = fzA (M 1) other (M 1 (94 + 14 * e + 2 * l)) (2 * slit) := by simp [ptL, c, c2]
            refine lpN (R := fun j x => P_M_parts_66 post (P_M_parts_3 post n) (P_M_parts_18 post (P_M_parts_3 post n) m) j set other time slit from_ to_ (nI e) (nI l) (bi (allB (fzX (M 1) other (M 1 (94 + 14 * e + 2 * l)) (2 * slit)) x)) (nI x) M) (N := nn (M 1 7)) (fun k => ?_) (fun k x hx ih3 => ?_)
            · refine ⟨vin_nI (n := 7) (by omega) (by omega), brSt hn (b0n (fun c3 => no ?_) (fun c3 => ?_))⟩
              · rw [epl]; exact c3
              · have e1 : ptL (M 1) set other time slit from_ to_ e l = true := by rw [epl]; exact c3
                have e2 : ptE (M 1) set other time slit from_ to_ e = true := anyB_iff.mpr ⟨l, hlx, e1⟩
                have e3 : ptA (M 1) set other time slit from_ to_ = true := anyB_iff.mpr ⟨e, he, e2⟩
                rw [e3] at h; exact h
            · have hx6 : x < 6 := by omega
              obtain ⟨hlx2, hlx6⟩ := hI.nl hx6
              refine ⟨vin_nI (n := 7) (by omega) (by omega), brGo hn (by omega) hx ?_⟩
              have e4 : allB (fzX (M 1) other (M 1 (94 + 14 * e + 2 * l)) (2 * slit)) (x + 1) = (allB (fzX (M 1) other (M 1 (94 + 14 * e + 2 * l)) (2 * slit)) x && allB (fzB (M 1) other (M 1 (94 + 14 * e + 2 * l)) (2 * slit) x) (nn (M 1 (93 + 14 * x)))) := rfl
              rw [e4] at ih3
              generalize allB (fzX (M 1) other (M 1 (94 + 14 * e + 2 * l)) (2 * slit)) x = q at ih3 ⊢
              have := lpN (R := fun j y => P_M_parts_81 post (P_M_parts_3 post n) (P_M_parts_18 post (P_M_parts_3 post n) m) (P_M_parts_66 post (P_M_parts_3 post n) (P_M_parts_18 post (P_M_parts_3 post n) m) k) j set other time slit from_ to_ (nI e) (nI l) (bi (q && allB (fzB (M 1) other (M 1 (94 + 14 * e + 2 * l)) (2 * slit) x) y)) (nI x) (nI y) M) (N := nn (M 1 (93 + 14 * x))) (fun k2 => by
                refine s_M_lines hx6 (brSt hlx2 ?_)
                rw [nI_1]; exact ih3) (fun k2 y hy2 ih4 => by
                have hy6 : y < 6 := by omega
                have e5 : allB (fzB (M 1) other (M 1 (94 + 14 * e + 2 * l)) (2 * slit) x) (y + 1) = (allB (fzB (M 1) other (M 1 (94 + 14 * e + 2 * l)) (2 * slit) x) y && fzB (M 1) other (M 1 (94 + 14 * e + 2 * l)) (2 * slit) x y) := rfl
                have nx : ∀ b : Bool, b = (q && allB (fzB (M 1) other (M 1 (94 + 14 * e + 2 * l)) (2 * slit) x) (y + 1)) → P_M_parts_139 post (P_M_parts_3 post n) (P_M_parts_18 post (P_M_parts_3 post n) m) (P_M_parts_66 post (P_M_parts_3 post n) (P_M_parts_18 post (P_M_parts_3 post n) m) k) (P_M_parts_81 post (P_M_parts_3 post n) (P_M_parts_18 post (P_M_parts_3 post n) m) (P_M_parts_66 post (P_M_parts_3 post n) (P_M_parts_18 post (P_M_parts_3 post n) m) k) k2) set other time slit from_ to_ (nI e) (nI l) (nI x) (nI y) (bi b) M := by
                  intro b hb
                  unfold P_M_parts_139
                  rw [hb, nI_1]; exact ih4
                refine s_M_lines hx6 (brGo hlx2 (by omega) hy2 (b0n (fun c3 => nx false ?_) (fun c3 => s_M_isInSet hx6 (b0n (fun c4 => nx true ?_) (fun c4 => s_M_waveOf hx6 hy6 (s_M_waveOf he6 hl6' (s_abs ⟨fun c5 => nx false ?_, fun c5 => nx true ?_⟩)))))))
                · rw [e5, ← Bool.and_assoc, c3]; rfl
                · rw [e5, ← Bool.and_assoc, c3]; simp [fzB, c4]
                · rw [e5]
                  have : fzB (M 1) other (M 1 (94 + 14 * e + 2 * l)) (2 * slit) x y = false := by simp only [fzB, c4, Bool.not_true, Bool.false_or, decide_eq_false_iff_not]; exact fun h => h c5
                  rw [this]; simp
                · rw [e5, ← Bool.and_assoc, c3]
                  have : fzB (M 1) other (M 1 (94 + 14 * e + 2 * l)) (2 * slit) x y = true := by simp only [fzB, c4, Bool.not_true, Bool.false_or, decide_eq_true_eq]; exact c5
                  rw [this]; rfl)
              simp only [allB, Bool.and_true] at this
              exact this
      obtain ⟨j, hj⟩ := k2
      exact ⟨j, hj rfl⟩
  obtain ⟨j, hj⟩ := key
  exact ⟨j, hj rfl⟩
/-- the first of some: what is found at x, else what follows -/
def frF (g : Nat → Int32 → Int32) (k : Int32) : Nat → Nat → Int32
  | 0, _ => k
  | d + 1, x => g x (frF g k d (x + 1))
theorem frF_end {g : Nat → Int32 → Int32} {k : Int32} {N : Nat} : frF g k (N - N) N = k := by rw [Nat.sub_self]; rfl
theorem frF_step {g : Nat → Int32 → Int32} {k : Int32} {N x : Nat} (h : x < N) : frF g k (N - x) x = g x (frF g k (N - (x + 1)) (x + 1)) := by
  rw [show N - x = (N - (x + 1)) + 1 by omega]; rfl
/-- the first exposure that parts two sets: time 1 + t, slit 1 + s -/
def nxA (q : Nat → Nat → Bool) : Int32 := frF (fun t k => frF (fun s k => if q (t + 1) (s + 1) then nI (10 * (t + 1) + (s + 1)) else k) k 5 0) (-1) 9 0
theorem s_M_next {post : Int32 → Mem → Prop} {a b from_ to_ : Int32} {M : Mem} (hI : WInv (M 1)) (h : Qr post M (if !(inb from_ 1000 9999 && inb to_ 1000 9999 && decide (from_ ≤ to_)) then qi 1 0 else qi 0 (nxA (fun t s => ptA (M 1) a b (nI t) (nI s) from_ to_ || ptA (M 1) b a (nI t) (nI s) from_ to_)))) : P_M_next post a b from_ to_ M := by
  have bad : (inb from_ 1000 9999 && inb to_ 1000 9999 && decide (from_ ≤ to_)) = false → P_M_next_32 post a b from_ to_ (bi true) (thr M 0) := fun c => by
    rw [c] at h
    exact tI0n (fun c2 => absurd c2 (by simp)) (fun _ => h.thrown)
  refine th0 (s_M_noWave (bn0 (fun c1 => s_M_noWave (bn0 (fun c2 => ⟨fun c3 => ?_, fun c3 => bad ?_⟩) (fun c2 => bad ?_))) (fun c1 => bad ?_)))
  · rw [bnot c1, bnot c2, decide_eq_true c3] at h
    refine tI0n (b := false) (fun _ => ?_) (fun c2 => absurd c2 (by simp))
    have h := h.plain
    generalize hq : (fun t s => ptA (M 1) a b (nI t) (nI s) from_ to_ || ptA (M 1) b a (nI t) (nI s) from_ to_) = q at h
    unfold nxA at h
    generalize hg : (fun t k => frF (fun s k => if q (t + 1) (s + 1) then nI (10 * (t + 1) + (s + 1)) else k) k 5 0) = g at h
    have key : ∃ j, frF g (-1) (9 - 0) 0 = frF g (-1) 9 0 → P_M_next_44 post j a b from_ to_ (nI (0 + 1)) (thr M 0) := by
      refine lpN (R := fun j t => frF g (-1) (9 - t) t = frF g (-1) 9 0 → P_M_next_44 post j a b from_ to_ (nI (t + 1)) (thr M 0)) (N := 9) (fun n hv => ?_) (fun n t ht ih hv => ?_)
      · refine ⟨fun _ => ?_, fun c => absurd (show (10 : Int32) ≤ nI (9 + 1) by decide) c⟩
        rw [← hv] at h; exact h
      · refine ⟨fun c => ?_, fun _ => ?_⟩
        · rw [show (10 : Int32) = nI 10 from rfl, nI_le_iff (by omega) (by omega)] at c; omega
        rw [frF_step ht] at hv
        generalize hk : frF g (-1) (9 - (t + 1)) (t + 1) = kk at hv ih
        have k2 : ∃ j, frF (fun s k => if q (t + 1) (s + 1) then nI (10 * (t + 1) + (s + 1)) else k) kk (5 - 0) 0 = frF g (-1) 9 0 → P_M_next_54 post (P_M_next_44 post n) j a b from_ to_ (nI (t + 1)) (nI (0 + 1)) (thr M 0) := by
          refine lpN (R := fun j s => frF (fun s k => if q (t + 1) (s + 1) then nI (10 * (t + 1) + (s + 1)) else k) kk (5 - s) s = frF g (-1) 9 0 → P_M_next_54 post (P_M_next_44 post n) j a b from_ to_ (nI (t + 1)) (nI (s + 1)) (thr M 0)) (N := 5) (fun m hv2 => ?_) (fun m s hs ih2 hv2 => ?_)
          · refine ⟨fun _ => ?_, fun c => absurd (show (6 : Int32) ≤ nI (5 + 1) by decide) c⟩
            rw [nI_1]
            exact ih hv2
          · refine ⟨fun c => ?_, fun _ => ?_⟩
            · rw [show (6 : Int32) = nI 6 from rfl, nI_le_iff (by omega) (by omega)] at c; omega
            rw [frF_step hs] at hv2
            have found : q (t + 1) (s + 1) = true → P_M_next_93 post (P_M_next_44 post n) (P_M_next_54 post (P_M_next_44 post n) m) (nI (t + 1)) (nI (s + 1)) (thr M 0) := by
              intro hq1
              rw [if_pos hq1] at hv2
              rw [← hv2] at h
              unfold P_M_next_93
              rw [show (10 : Int32) = nI 10 from rfl, pk_mul, nI_add]
              exact h
            refine s_M_parts (by rw [thr1]; exact hI) ?_
            rw [thr1]
            refine bn0 (fun c4 => s_M_parts (by rw [thr1]; exact hI) ?_) (fun c4 => found (by rw [← hq]; simp [c4]))
            rw [thr1]
            refine b0n (fun c5 => ?_) (fun c5 => found (by rw [← hq]; simp [c5]))
            rw [if_neg (by rw [← hq]; simp [c4, c5])] at hv2
            rw [nI_1]
            exact ih2 hv2
        obtain ⟨j, hj⟩ := k2
        exact ⟨j, hj (by rw [← hv, ← hg])⟩
    obtain ⟨j, hj⟩ := key
    exact ⟨j, hj rfl⟩
  · rw [decide_eq_false c3]; simp
  · rw [bnot' c2]; simp
  · rw [bnot' c1]; simp
