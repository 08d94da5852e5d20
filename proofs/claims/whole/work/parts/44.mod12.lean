/-! THE REFERENCE: misprint, stars, drift, grain, near, alike -/
def chg (v u : Int32) : Int32 := v + (irm (v / (10 * u)) 10 - irm (v / u) 10) * u + (irm (v / u) 10 - irm (v / (10 * u)) 10) * 10 * u
theorem s_M_changed {post : Int32 → Mem → Prop} {v u : Int32} {M : Mem} (hu : ¬ u = 0) (hu2 : ¬ 10 * u = 0) (h : post (chg v u) M) : P_M_changed post v u M := by
  refine ⟨hu, fun x2 e2 => ⟨hu2, fun x3 e3 v3 e4 => ?_⟩⟩
  subst e2 e3 e4
  exact h
/-- reading r holds a wave with two figures changed -/
def cgB (lo hi : Nat → Int32) (left v : Int32) (r : Nat) : Bool := tb left r && (inB lo hi r (chg v 1) || inB lo hi r (chg v 10) || inB lo hi r (chg v 100))
def mpA (w lo hi : Nat → Int32) (p e : Nat) : Int32 := frF (fun l k => if moB w p e l 0 && !seA w lo hi (nI p) (w (94 + 14 * e + 2 * l)) then frF (fun r k => if cgB lo hi (lfA w lo hi (nI p) ((1 : Int32) <<< (nI e &&& 31)) 0) (w (94 + 14 * e + 2 * l)) r then nI (32 * l + r) else k) k (nn (w 9)) 0 else k) (-1) (nn (w (93 + 14 * e))) 0
theorem s_M_misprint {post : Int32 → Mem → Prop} {p e : Int32} {M : Mem} (hI : WInv (M 1)) (h : Qs post M (fun lo hi => qp1 (inb p 0 (M 1 8 - 1) && inb e 0 (M 1 7 - 1)) (mpA (M 1) lo hi (nn p) (nn e)))) : P_M_misprint post p e M := by
  obtain ⟨hn, hn24⟩ := hI.nr
  have bad : (inb p 0 (M 1 8 - 1) && inb e 0 (M 1 7 - 1)) = false → P_M_misprint_31 post p e (bi true) (thr M 0) := fun c => by
    refine tI0n (fun c2 => absurd c2 (by simp)) (fun _ => ?_)
    exact h.bad (fun lo hi => by simp [qp1, c])
  refine th0 (s_M_none (c := 8) (by omega) ?_)
  rw [thr1]
  refine bn0 (fun c => s_M_none (c := 7) (by omega) ?_) (fun c => bad (by simp [bnot' c]))
  rw [thr1]
  refine b0n (fun c2 => ?_) (fun c2 => bad (by simp [bnot' c2]))
  obtain ⟨hp, hp3⟩ := hI.inp (bnot c)
  obtain ⟨he, he7, he6⟩ := hI.ine (bnot c2)
  refine tI0n (b := false) (fun _ => s_sp hI (fun M' hM h0 h1 hL hS => ?_)) (fun c2 => absurd c2 (by simp))
  have hI' : WInv (M' 1) := by rw [h1]; exact hI
  have hn' : M' 1 9 = nI (nn (M 1 9)) := by rw [h1]; exact hn
  obtain ⟨hl, hl6⟩ := hI.nl he6
  have hl' : M' 1 (93 + 14 * nn e) = nI (nn (M 1 (93 + 14 * nn e))) := by rw [h1]; exact hl
  have hpost := h _ _ hS
  simp only [qp1, bnot c, bnot c2] at hpost
  have hpost := hpost M' hM h0
  generalize nn p = p' at *
  generalize nn e = e' at *
  subst hp he
  refine s_M_leftOf hI' ?_
  rw [h1]
  unfold mpA at hpost
  generalize lfA (M 1) (M' 5) (M' 6) (nI p') ((1 : Int32) <<< (nI e' &&& 31)) 0 = left at hpost ⊢
  generalize hg : (fun l k => if moB (M 1) p' e' l 0 && !seA (M 1) (M' 5) (M' 6) (nI p') (M 1 (94 + 14 * e' + 2 * l)) then frF (fun r k => if cgB (M' 5) (M' 6) left (M 1 (94 + 14 * e' + 2 * l)) r then nI (32 * l + r) else k) k (nn (M 1 9)) 0 else k) = g at hpost
  have hpost : post (frF g (-1) (nn (M 1 (93 + 14 * e'))) 0) M' := hpost
  generalize hfin : frF g (-1) (nn (M 1 (93 + 14 * e'))) 0 = fin at hpost
  have key : ∃ j, frF g (-1) (nn (M 1 (93 + 14 * e')) - 0) 0 = fin → P_M_misprint_57 post j (nI p') (nI e') left (nI 0) M' := by
    refine lpN (R := fun j l => frF g (-1) (nn (M 1 (93 + 14 * e')) - l) l = fin → P_M_misprint_57 post j (nI p') (nI e') left (nI l) M') (N := nn (M 1 (93 + 14 * e'))) (fun n hv => ?_) (fun n l hlx ih hv => ?_)
    · refine s_M_lines he6 (brSt hl' ?_)
      rw [frF_end] at hv
      rw [← hv] at hpost; exact hpost
    · have hl6' : l < 6 := by omega
      rw [frF_step hlx] at hv
      generalize hk : frF g (-1) (nn (M 1 (93 + 14 * e')) - (l + 1)) (l + 1) = kk at hv ih
      have skip : kk = fin → P_M_misprint_185 post (P_M_misprint_57 post n) (nI p') (nI e') left (nI l) M' := by
        intro e1
        unfold P_M_misprint_185
        rw [nI_1]; exact ih e1
      refine s_M_lines he6 (brGo hl' (by omega) hlx (s_M_waveOf he6 hl6' (s_M_mustOn hp3 he6 hl6' ?_)))
      rw [h1]
      generalize hv0 : M 1 (94 + 14 * e' + 2 * l) = v0
      refine b0n (fun c3 => skip ?_) (fun c3 => s_M_isSeen hI' ?_)
      · rw [← hg] at hv; simp only [c3, Bool.false_and, Bool.false_eq_true, if_false] at hv; exact hv
      rw [h1]
      refine b0n (fun c4 => ?_) (fun c4 => skip ?_)
      · rw [← hg] at hv
        simp only [c3, hv0, c4, Bool.not_false, Bool.and_self, if_true] at hv
        have k2 : ∃ j, frF (fun r k => if cgB (M' 5) (M' 6) left v0 r then nI (32 * l + r) else k) kk (nn (M 1 9) - 0) 0 = fin → P_M_misprint_104 post (P_M_misprint_57 post n) j (nI p') (nI e') left (nI l) v0 (nI 0) M' := by
          refine lpN (R := fun j r => frF (fun r k => if cgB (M' 5) (M' 6) left v0 r then nI (32 * l + r) else k) kk (nn (M 1 9) - r) r = fin → P_M_misprint_104 post (P_M_misprint_57 post n) j (nI p') (nI e') left (nI l) v0 (nI r) M') (N := nn (M 1 9)) (fun m hv2 => ?_) (fun m r hr ih2 hv2 => ?_)
          · refine s_M_readings (brSt hn' (skip ?_))
            rw [frF_end] at hv2; exact hv2
          · have hr24 : r < 24 := by omega
            rw [frF_step hr] at hv2
            have no : cgB (M' 5) (M' 6) left v0 r = false → P_M_misprint_179 post (P_M_misprint_57 post n) (P_M_misprint_104 post (P_M_misprint_57 post n) m) (nI p') (nI e') left (nI l) v0 (nI r) M' := by
              intro e1
              unfold P_M_misprint_179
              rw [nI_1]
              refine ih2 ?_
              rw [e1] at hv2; exact hv2
            have yes : cgB (M' 5) (M' 6) left v0 r = true → P_M_misprint_170 post (P_M_misprint_57 post n) (P_M_misprint_104 post (P_M_misprint_57 post n) m) (nI l) (nI r) M' := by
              intro e1
              rw [e1] at hv2
              simp only [if_true] at hv2
              unfold P_M_misprint_170
              rw [show (32 : Int32) = nI 32 from rfl, pk_mul, nI_add, hv2]
              exact hpost
            refine s_M_readings (brGo hn' (by omega) hr ⟨fun c5 => no ?_, fun c5 => s_M_changed (by decide) (by decide) (s_M_isIn hr24 (bn0 (fun c6 => s_M_changed (by decide) (by decide) (s_M_isIn hr24 (bn0 (fun c7 => s_M_changed (by decide) (by decide) (s_M_isIn hr24 (b0n (fun c8 => no ?_) (fun c8 => yes ?_)))) (fun c7 => yes ?_)))) (fun c6 => yes ?_)))⟩)
            · have : tb left r = false := by simp only [tb, decide_eq_false_iff_not]; exact c5
              simp [cgB, this]
            · simp [cgB, c6, c7, c8]
            · have : tb left r = true := by simp only [tb, decide_eq_true_eq]; exact c5
              simp [cgB, this, c8]
            · have : tb left r = true := by simp only [tb, decide_eq_true_eq]; exact c5
              simp [cgB, this, c7]
            · have : tb left r = true := by simp only [tb, decide_eq_true_eq]; exact c5
              simp [cgB, this, c6]
        obtain ⟨j, hj⟩ := k2
        exact ⟨j, hj hv⟩
      · rw [← hg] at hv
        simp only [hv0, c4, Bool.not_true, Bool.and_false, Bool.false_eq_true, if_false] at hv
        exact hv
  obtain ⟨j, hj⟩ := key
  exact ⟨j, hj hfin⟩
/-! stars -/
def lvS (w lo hi : Nat → Int32) (p : Nat) (set : Int32) (i : Nat) : Int32 := if miS w lo hi p set (I ((i : Int) - 50)) = 0 then lfA w lo hi (nI p) set (I ((i : Int) - 50)) else -1
theorem s_M_leaves {post : Mem → Prop} {p f : Nat} {set : Int32} {M : Mem} (hI : WInv (M 1)) (hp : p < 3) (hf : f ≤ 101) (h : ∀ M', (∀ c, c ≠ 9 → M' c = M c) → (∀ i, i < 101 → M' 9 (f + i) = lvS (M 1) (M 5) (M 6) p set i) → (∀ k, k < f ∨ f + 101 ≤ k → M' 9 k = M 9 k) → post M') : P_M_leaves post (nI p) set (nI f) M := by
  have key : ∃ j, ∀ M', (∀ c, c ≠ 9 → M' c = M c) → (∀ i, i < 0 → M' 9 (f + i) = lvS (M 1) (M 5) (M 6) p set i) → (∀ k, k < f ∨ f + 101 ≤ k → M' 9 k = M 9 k) → P_M_leaves_4 post j (nI p) set (nI f) (I (((0 : Nat) : Int) - 50)) M' := by
    refine lpN (R := fun j x => ∀ M', (∀ c, c ≠ 9 → M' c = M c) → (∀ i, i < x → M' 9 (f + i) = lvS (M 1) (M 5) (M 6) p set i) → (∀ k, k < f ∨ f + 101 ≤ k → M' 9 k = M 9 k) → P_M_leaves_4 post j (nI p) set (nI f) (I ((x : Int) - 50)) M') (N := 101) (fun n M' h1 h2 h3 => ?_) (fun n x hx ih M' h1 h2 h3 => ?_)
    · exact ⟨fun _ => h M' h1 h2 h3, fun c => absurd (show (50 : Int32) < I ((101 : Nat) - 50) by decide) c⟩
    · refine ⟨fun c => ?_, fun _ => ?_⟩
      · rw [show (50 : Int32) = I 50 from rfl, I_lt (by omega) (by omega)] at c; omega
      have w1 : M' 1 = M 1 := h1 1 (by omega)
      have hI' : WInv (M' 1) := by rw [w1]; exact hI
      have e1 : I ((x : Int) - 50) + (1 : Int32) = I (((x + 1 : Nat) : Int) - 50) := by rw [I_1, I_add]; congr 1; omega
      have e2 : nI f + I ((x : Int) - 50) + (50 : Int32) = nI (f + x) := by rw [nI_I, show (50 : Int32) = I 50 from rfl, I_add, I_add, nI_I]; congr 1; omega
      have put : ∀ v : Int32, v = lvS (M 1) (M 5) (M 6) p set x → P_M_leaves_45 post (P_M_leaves_4 post n) (nI p) set (nI f) (I ((x : Int) - 50)) (nI (f + x)) v M' := by
        intro v hv
        refine ⟨vin_nI (by omega) (by omega), fun M1 em => ?_⟩
        rw [nI_clamp (by omega)] at em
        rw [e1]
        refine ih M1 (fun c hc => by rw [em, ms_off _ _ _ hc, h1 c hc]) (fun i hi => ?_) (fun k hk => ?_)
        · rw [em, ms_row]
          simp only [upd]
          by_cases e3 : i = x
          · subst e3; rw [if_pos rfl, hv]
          · rw [if_neg (by omega)]; exact h2 i (by omega)
        · rw [em, ms_row]
          simp only [upd]
          rw [if_neg (by omega)]; exact h3 k hk
      have hmi := miS_le (w := M 1) (lo := M 5) (hi := M 6) (p := p) (set := set) (speed := I ((x : Int) - 50)) hI
      rw [e2]
      refine s_M_missedOf hI' hp ?_
      rw [w1, h1 5 (by omega), h1 6 (by omega)]
      refine ⟨fun c => put _ ?_, fun c => s_M_leftOf hI' ?_⟩
      · unfold lvS; rw [if_neg (fun e => c (by rw [e]; rfl))]
      · rw [w1, h1 5 (by omega), h1 6 (by omega)]
        refine put _ ?_
        unfold lvS
        rw [if_pos (by rw [← nI_0, nI_eq (by omega) (by omega)] at c; exact c)]
  obtain ⟨j, hj⟩ := key
  exact ⟨j, hj M (fun _ _ => rfl) (fun i hi => by omega) (fun _ _ => rfl)⟩
/-- pairs of speeds: how many, the first -/
def srS (A B : Nat → Int32) (a b : Nat) (t : Nat × Int32 × Int32) : Nat × Int32 × Int32 := if A a < 0 ∨ B b < 0 ∨ ¬ A a &&& B b = 0 then t else (t.1 + 1, (if t.1 = 0 then I ((a : Int) - 50) else t.2.1), (if t.1 = 0 then I ((b : Int) - 50) else t.2.2))
def srB (A B : Nat → Int32) (a : Nat) (t : Nat × Int32 × Int32) : Nat → Nat × Int32 × Int32
  | 0 => t
  | b + 1 => srS A B a b (srB A B a t b)
def srA (A B : Nat → Int32) : Nat → Nat × Int32 × Int32
  | 0 => (0, 99, 99)
  | a + 1 => srB A B a (srA A B a) 101
theorem srB_le {A B : Nat → Int32} {a : Nat} {t : Nat × Int32 × Int32} : ∀ b, (srB A B a t b).1 ≤ t.1 + b
  | 0 => by simp [srB]
  | b + 1 => by
    have ih := srB_le (A := A) (B := B) (a := a) (t := t) b
    simp only [srB, srS]
    split
    · omega
    · simp only []; omega
theorem srA_le {A B : Nat → Int32} : ∀ a, (srA A B a).1 ≤ a * 101
  | 0 => by simp [srA]
  | a + 1 => by
    have ih := srA_le (A := A) (B := B) a
    have h2 := srB_le (A := A) (B := B) (a := a) (t := srA A B a) 101
    simp only [srA, Nat.succ_mul] at *; omega
theorem s_M_stars {post : Int32 → Mem → Prop} {p f s what : Int32} {M : Mem} (hI : WInv (M 1)) (h : Qs post M (fun lo hi => qpw (M 1) p (inb what 0 2) (sdW (srA (lvS (M 1) lo hi (nn p) f) (lvS (M 1) lo hi (nn p) s) 101) what))) : P_M_stars post p f s what M := by
  refine th0 (s_qpw hI h (X := P_M_stars_36 post p f s what) (fun b M' hb => hb) (fun hp hp3 hw M' h1 hS hpost h0 => ?_))
  rw [hp]
  refine s_M_leaves (f := 0) (by rw [h1]; exact hI) hp3 (by omega) (fun M2 a1 a2 a3 => ?_)
  have w2 : M2 1 = M 1 := by rw [a1 1 (by omega), h1]
  refine s_M_leaves (f := 101) (by rw [w2]; exact hI) hp3 (by omega) (fun M3 b1 b2 b3 => ?_)
  rw [h1] at a2
  rw [w2, a1 5 (by omega), a1 6 (by omega)] at b2
  have hA : ∀ i, i < 101 → M3 9 i = lvS (M 1) (M' 5) (M' 6) (nn p) f i := by
    intro i hi
    rw [b3 i (by omega)]
    have := a2 i hi
    rwa [Nat.zero_add] at this
  have hpost := hpost M3 (MSame.of fun c hc => by rw [b1 c (by omega), a1 c (by omega)]) (by rw [b1 0 (by omega), a1 0 (by omega)]; exact h0)
  generalize lvS (M 1) (M' 5) (M' 6) (nn p) f = A at hA hpost
  generalize lvS (M 1) (M' 5) (M' 6) (nn p) s = B at b2 hpost
  have hle := srA_le (A := A) (B := B)
  generalize hF : srA A B = F at hpost hle
  refine lpN (R := fun j a => P_M_stars_78 post j what (nI (F a).1) (F a).2.1 (F a).2.2 (nI a) M3) (N := 101) (fun n => ?_) (fun n a ha ih => ?_) |>.imp (fun j hj => by rw [← hF] at hj; exact hj)
  · refine ⟨fun _ => ?_, fun c => absurd (show (101 : Int32) ≤ nI 101 by decide) c⟩
    refine ⟨fun c => ⟨fun c2 => ?_, fun c2 => ?_⟩, fun c => ?_⟩
    · simp only [sdW, c, c2, if_false] at hpost; exact hpost
    · simp only [sdW, c, c2, if_false, if_true] at hpost; rw [if_neg (by decide)] at hpost; exact hpost
    · simp only [sdW, c, if_true] at hpost; exact hpost
  · refine ⟨fun c => ?_, fun _ => ?_⟩
    · rw [show (101 : Int32) = nI 101 from rfl, nI_le_iff (by omega) (by omega)] at c; omega
    have hFa := hle a
    have eFa : F (a + 1) = srB A B a (F a) 101 := by rw [← hF]; rfl
    rw [eFa] at ih
    have hGle := srB_le (A := A) (B := B) (a := a) (t := F a)
    generalize hG : srB A B a (F a) = G at ih hGle
    have eG0 : G 0 = F a := by rw [← hG]; rfl
    rw [← eG0]
    have hma : a * 101 ≤ 10100 := by omega
    refine lpN (R := fun j b => P_M_stars_88 post (P_M_stars_78 post n) j what (nI (G b).1) (G b).2.1 (G b).2.2 (nI a) (nI b) M3) (N := 101) (fun m => ?_) (fun m b hb ih2 => ?_)
    · refine ⟨fun _ => ?_, fun c => absurd (show (101 : Int32) ≤ nI 101 by decide) c⟩
      rw [nI_1]; exact ih
    · refine ⟨fun c => ?_, fun _ => ?_⟩
      · rw [show (101 : Int32) = nI 101 from rfl, nI_le_iff (by omega) (by omega)] at c; omega
      have hGb := hGle b
      have eG : G (b + 1) = srS A B a b (G b) := by rw [← hG]; rfl
      have e101 : (101 : Int32) + nI b = nI (101 + b) := nI_add 101 b
      rw [e101, nI_clamp (by omega), nI_clamp (by omega), hA a ha, b2 b hb]
      have no : srS A B a b (G b) = G b → P_M_stars_164 post (P_M_stars_78 post n) (P_M_stars_88 post (P_M_stars_78 post n) m) what (nI (G b).1) (G b).2.1 (G b).2.2 (nI a) (nI b) M3 := by
        intro e
        rw [eG, e] at ih2
        unfold P_M_stars_164
        rw [nI_1]; exact ih2
      refine ⟨vin_nI (by omega) (by omega), fun c => no ?_, fun c => ⟨vin_nI (by omega) (by omega), fun c2 => no ?_, fun c2 => ⟨vin_nI (by omega) (by omega), vin_nI (by omega) (by omega), fun v1 e1 => ⟨fun c3 => ?_, fun c3 => no ?_⟩⟩⟩⟩
      · unfold srS; rw [if_pos (Or.inl c)]
      · unfold srS; rw [if_pos (Or.inr (Or.inl c2))]
      · have e2 : srS A B a b (G b) = ((G b).1 + 1, (if (G b).1 = 0 then I ((a : Int) - 50) else (G b).2.1), (if (G b).1 = 0 then I ((b : Int) - 50) else (G b).2.2)) := by
          unfold srS; rw [if_neg]; rintro (h | h | h)
          · exact c h
          · exact c2 h
          · exact h (by rw [← e1]; exact c3)
        rw [eG, e2] at ih2
        refine ⟨fun c4 => ?_, fun c4 x6 e6 x7 e7 => ?_⟩
        · have c5 : ¬ (G b).1 = 0 := fun e => c4 (by rw [e]; rfl)
          rw [if_neg c5, if_neg c5] at ih2
          unfold P_M_stars_161 P_M_stars_164
          rw [nI_1, nI_1]; exact ih2
        · have c5 : (G b).1 = 0 := by rw [← nI_0, nI_eq (by omega) (by omega)] at c4; exact c4
          rw [if_pos c5, if_pos c5] at ih2
          have e8 : x6 = I ((a : Int) - 50) := by rw [e6, nI_I, show (50 : Int32) = I 50 from rfl, I_sub]
          have e9 : x7 = I ((b : Int) - 50) := by rw [e7, nI_I, show (50 : Int32) = I 50 from rfl, I_sub]
          subst e8 e9
          unfold P_M_stars_161 P_M_stars_164
          rw [nI_1, nI_1]; exact ih2
      · unfold srS; rw [if_pos (Or.inr (Or.inr (by rw [← e1]; exact c3)))]
