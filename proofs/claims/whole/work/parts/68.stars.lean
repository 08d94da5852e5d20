/-! THE CLASS: two stars -/
section STARS
variable {w lo hi : Nat → Int32} {p : Nat} {M : Mem}
theorem neg_gb {x : Int32} : x < 0 ↔ gb x 31 = true := by
  rw [ltI]
  have e0 : (0 : Int32).toInt = 0 := rfl
  have h : gb x 31 = x.toBitVec.msb := by rw [BitVec.msb_eq_getLsbD_last]; rfl
  rw [h, signI, e0]; simp
theorem anyB_or {f g : Nat → Bool} : ∀ {n : Nat}, anyB (fun e => f e || g e) n = (anyB f n || anyB g n)
  | 0 => rfl
  | n + 1 => by
    simp only [anyB]
    rw [anyB_or (n := n)]
    cases anyB f n <;> cases anyB g n <;> cases f n <;> cases g n <;> rfl
theorem sumN_add {f g : Nat → Nat} : ∀ {n : Nat}, sumN (fun e => f e + g e) n = sumN f n + sumN g n
  | 0 => rfl
  | n + 1 => by simp only [sumN]; rw [sumN_add (n := n)]; omega
def arI (w : Nat → Int32) : Int32 := bitF (airB w) (nn (w 7))
theorem tb_arI (hI : WInv w) {e : Nat} (he : e < nn (w 7)) : tb (arI w) e = airB w e := by
  have h6 := hI.ne.2
  unfold arI
  rw [tb_gb (by omega), bitF_gb _ _ (by omega) e (by omega), decide_eq_true he, Bool.true_and]
theorem shf_air {e l : Nat} {speed : Int32} (h : airB w e = true) : shf w e l speed = shf w e l 0 := by unfold shf; rw [h]; rfl
theorem cv_split (hI : WInv w) {set speed : Int32} {r : Nat} : cvB w lo hi p (wA w set) speed r = (cvB w lo hi p (arI w) 0 r || cvB w lo hi p (woA w set) speed r) := by
  unfold cvB
  rw [← anyB_or]
  refine anyB_congr (fun e he => ?_)
  rw [tb_wA hI he, tb_arI hI he, tb_woA hI he]
  unfold inS
  cases ha : airB w e with
  | true =>
    have : anyB (fun l => htB w lo hi p r (shf w e l speed)) (nn (w (93 + 14 * e))) = anyB (fun l => htB w lo hi p r (shf w e l 0)) (nn (w (93 + 14 * e))) := anyB_congr (fun l _ => by rw [shf_air ha])
    rw [this]; simp
  | false => simp
theorem ms_split (hI : WInv w) {set speed : Int32} : msS w lo hi p (wA w set) speed = msS w lo hi p (arI w) 0 + msS w lo hi p (woA w set) speed := by
  unfold msS
  rw [← sumN_add]
  refine sumN_congr (fun e he => ?_)
  have hz : ∀ {el sp : Int32}, tb el e = false → cntB (msL w lo hi p el sp e) (nn (w (93 + 14 * e))) = 0 := by
    intro el sp ht
    rw [cntB_0, anyB_f]
    intro l _
    unfold msL; rw [ht]; rfl
  cases ha : airB w e with
  | true =>
    rw [hz (el := woA w set) (by rw [tb_woA hI he, ha]; simp), Nat.add_zero]
    refine cntB_congr (fun l _ => ?_)
    unfold msL moB msB
    rw [tb_wA hI he, tb_arI hI he, shf_air ha]
    unfold inS; rw [ha]; rfl
  | false =>
    rw [hz (el := arI w) (by rw [tb_arI hI he, ha]), Nat.zero_add]
    refine cntB_congr (fun l _ => msL_tb ?_)
    rw [tb_wA hI he, tb_woA hI he]
    unfold inS; rw [ha]; simp
/-- what a star covers, -1 if it misses -/
def stR (w lo hi : Nat → Int32) (p : Nat) (set : Int32) (i : Nat) : Int32 := if msS w lo hi p (woA w set) (I ((i : Int) - 50)) = 0 then bitF (cvB w lo hi p (woA w set) (I ((i : Int) - 50))) (nn (w 9)) else -1
theorem s_C_putStar {post : Mem → Prop} {set : Int32} (hJ : JC M w p lo hi) (hI : WInv w) (hp : p < 3) (h : ∀ M', FrT M M' → (∀ c, c ≠ 69 → c ≠ 75 → M' c = M c) → (∀ i, i < 101 → M' 75 i = stR w lo hi p set i) → post M') : P_Judge_putStar post (woA w set) M := by
  have key : ∃ j, ∀ M1, FrT M M1 → (∀ c, c ≠ 69 → c ≠ 75 → M1 c = M c) → (∀ i, i < 0 → M1 75 i = stR w lo hi p set i) → P_Judge_putStar_2 post j (woA w set) (nI 0) M1 := by
    refine lpN (R := fun j x => ∀ M1, FrT M M1 → (∀ c, c ≠ 69 → c ≠ 75 → M1 c = M c) → (∀ i, i < x → M1 75 i = stR w lo hi p set i) → P_Judge_putStar_2 post j (woA w set) (nI x) M1) (N := 101) (fun j M1 f1 g1 h1 => brSt rfl (h M1 f1 g1 h1)) (fun j x hx ih M1 f1 g1 h1 => brGo (N := 101) rfl (by omega) hx (brGo (N := 101) rfl (by omega) hx ?_))
    have hJ1 := hJ.t f1
    have ex : nI x - 50 = I ((x : Int) - 50) := by rw [nI_I, show (50 : Int32) = I 50 from rfl, I_sub]
    rw [ex]
    refine s_C_survey (lo := lo) (hi := hi) hJ1.1 hI hp hJ1.2.2.1.1 hJ1.2.2.2 (fun M2 f2 a2 b2 => ?_)
    have hle := msS_le (lo := lo) (hi := hi) (p := p) (el := woA w set) (speed := I ((x : Int) - 50)) hI
    have put : ∀ v, v = stR w lo hi p set x → P_Judge_putStar_40 post (P_Judge_putStar_2 post j) (woA w set) (nI x) (nI x) v M2 := by
      intro v hv
      refine ⟨vin_nI hx (by omega), fun M3 m3 => ?_⟩
      rw [nI_clamp (by omega)] at m3
      rw [nI_1]
      refine ih M3 (by rw [m3]; exact (f1.trans f2.t).put (Or.inr ⟨by omega, by omega⟩) _) (fun c h1 h2 => by rw [m3, ms_off _ _ _ h2, f2.1 c h1]; exact g1 c h1 h2) (fun i hi => ?_)
      rw [m3]
      by_cases q : i = x
      · subst q; rw [ms_at]; exact hv
      · rw [ms_ne _ _ _ q, f2.1 75 (by omega)]; exact h1 i (by omega)
    rw [a2, b2]
    unfold stR at put
    generalize msS w lo hi p (woA w set) (I ((x : Int) - 50)) = G at put hle
    refine ⟨fun c => put _ ?_, fun c => put _ ?_⟩
    · rw [show (0 : Int32) = I 0 from rfl, nI_I, I_le (by omega) (by omega)] at c
      rw [if_pos (by omega)]
    · rw [if_neg (fun q => c (by rw [q]; decide))]
  obtain ⟨j, hj⟩ := key
  exact ⟨j, hj M (FrT.refl M) (fun _ _ _ => rfl) (fun i hi => by omega)⟩
theorem s_C_putStar2 {post : Mem → Prop} {set : Int32} (hJ : JC M w p lo hi) (hI : WInv w) (hp : p < 3) (h : ∀ M', FrT M M' → (∀ c, c ≠ 69 → c ≠ 76 → M' c = M c) → (∀ i, i < 101 → M' 76 i = stR w lo hi p set i) → post M') : P_Judge_putStar_69_76 post (woA w set) M := by
  have key : ∃ j, ∀ M1, FrT M M1 → (∀ c, c ≠ 69 → c ≠ 76 → M1 c = M c) → (∀ i, i < 0 → M1 76 i = stR w lo hi p set i) → P_Judge_putStar_69_76_2 post j (woA w set) (nI 0) M1 := by
    refine lpN (R := fun j x => ∀ M1, FrT M M1 → (∀ c, c ≠ 69 → c ≠ 76 → M1 c = M c) → (∀ i, i < x → M1 76 i = stR w lo hi p set i) → P_Judge_putStar_69_76_2 post j (woA w set) (nI x) M1) (N := 101) (fun j M1 f1 g1 h1 => brSt rfl (h M1 f1 g1 h1)) (fun j x hx ih M1 f1 g1 h1 => brGo (N := 101) rfl (by omega) hx (brGo (N := 101) rfl (by omega) hx ?_))
    have hJ1 := hJ.t f1
    have ex : nI x - 50 = I ((x : Int) - 50) := by rw [nI_I, show (50 : Int32) = I 50 from rfl, I_sub]
    rw [ex]
    refine s_C_survey (lo := lo) (hi := hi) hJ1.1 hI hp hJ1.2.2.1.1 hJ1.2.2.2 (fun M2 f2 a2 b2 => ?_)
    have hle := msS_le (lo := lo) (hi := hi) (p := p) (el := woA w set) (speed := I ((x : Int) - 50)) hI
    have put : ∀ v, v = stR w lo hi p set x → P_Judge_putStar_69_76_40 post (P_Judge_putStar_69_76_2 post j) (woA w set) (nI x) (nI x) v M2 := by
      intro v hv
      refine ⟨vin_nI hx (by omega), fun M3 m3 => ?_⟩
      rw [nI_clamp (by omega)] at m3
      rw [nI_1]
      refine ih M3 (by rw [m3]; exact (f1.trans f2.t).put (Or.inr ⟨by omega, by omega⟩) _) (fun c h1 h2 => by rw [m3, ms_off _ _ _ h2, f2.1 c h1]; exact g1 c h1 h2) (fun i hi => ?_)
      rw [m3]
      by_cases q : i = x
      · subst q; rw [ms_at]; exact hv
      · rw [ms_ne _ _ _ q, f2.1 76 (by omega)]; exact h1 i (by omega)
    rw [a2, b2]
    unfold stR at put
    generalize msS w lo hi p (woA w set) (I ((x : Int) - 50)) = G at put hle
    refine ⟨fun c => put _ ?_, fun c => put _ ?_⟩
    · rw [show (0 : Int32) = I 0 from rfl, nI_I, I_le (by omega) (by omega)] at c
      rw [if_pos (by omega)]
    · rw [if_neg (fun q => c (by rw [q]; decide))]
  obtain ⟨j, hj⟩ := key
  exact ⟨j, hj M (FrT.refl M) (fun _ _ _ => rfl) (fun i hi => by omega)⟩
/-! what is kept once a pair is found -/
theorem srS_k {A B : Nat → Int32} {a b : Nat} {t : Nat × Int32 × Int32} (h : ¬ t.1 = 0) : (srS A B a b t).2 = t.2 ∧ ¬ (srS A B a b t).1 = 0 := by
  unfold srS
  split
  · exact ⟨rfl, h⟩
  · refine ⟨?_, ?_⟩ <;> simp [h]
theorem srB_k {A B : Nat → Int32} {a : Nat} {t : Nat × Int32 × Int32} (b : Nat) (h : ¬ (srB A B a t b).1 = 0) : ∀ d, (srB A B a t (b + d)).2 = (srB A B a t b).2 ∧ ¬ (srB A B a t (b + d)).1 = 0
  | 0 => ⟨rfl, h⟩
  | d + 1 => by
    obtain ⟨h1, h2⟩ := srB_k b h d
    have := srS_k (A := A) (B := B) (a := a) (b := b + d) h2
    exact ⟨by rw [← h1]; exact this.1, this.2⟩
theorem srA_k {A B : Nat → Int32} (a : Nat) (h : ¬ (srA A B a).1 = 0) : ∀ d, (srA A B (a + d)).2 = (srA A B a).2 ∧ ¬ (srA A B (a + d)).1 = 0
  | 0 => ⟨rfl, h⟩
  | d + 1 => by
    obtain ⟨h1, h2⟩ := srA_k a h d
    have := srB_k (A := A) (B := B) (a := a + d) (t := srA A B (a + d)) 0 h2 101
    rw [Nat.zero_add] at this
    exact ⟨by rw [← h1]; exact this.1, this.2⟩
theorem srB_zero {A B : Nat → Int32} {a : Nat} {t : Nat × Int32 × Int32} (ht : t.1 = 0 → t = (0, 99, 99)) : ∀ b, (srB A B a t b).1 = 0 → srB A B a t b = (0, 99, 99)
  | 0, h => ht h
  | b + 1, h => by
    have ih := srB_zero (A := A) (B := B) (a := a) ht b
    simp only [srB] at h ⊢
    unfold srS at h ⊢
    split
    · rename_i c
      rw [if_pos c] at h; exact ih h
    · rename_i c
      rw [if_neg c] at h; simp at h
theorem sr_zero {A B : Nat → Int32} : ∀ a, (srA A B a).1 = 0 → srA A B a = (0, 99, 99)
  | 0, _ => rfl
  | a + 1, h => srB_zero (sr_zero a) 101 h
theorem srA_none {A B : Nat → Int32} (h : ∀ a, a < 101 → A a < 0) : ∀ n, n ≤ 101 → srA A B n = (0, 99, 99)
  | 0, _ => rfl
  | n + 1, hn => by
    have ih := srA_none (B := B) h n (by omega)
    have : ∀ b, srB A B n (0, 99, 99) b = (0, 99, 99) := by
      intro b
      induction b with
      | zero => rfl
      | succ b ihb => simp only [srB]; rw [ihb]; unfold srS; rw [if_pos (Or.inl (h n (by omega)))]
    simp only [srA]; rw [ih]; exact this 101
/-- the pairs as the class sees them -/
theorem sr_hit (hI : WInv w) {f s : Int32} {rest : Int32} (hrest : rest = ((bitF (fun r => decide (w (191 + 5 * r) = nI p)) (nn (w 9)) &&& (bitF (fun r => decide (w (191 + 5 * r) = nI p) && ghB w r) (nn (w 9)) ^^^ (-1))) &&& (bitF (cvB w lo hi p (arI w) 0) (nn (w 9)) ^^^ (-1)))) (hm : msS w lo hi p (arI w) 0 = 0) (i : Nat) :
    lvS w lo hi p f i = if stR w lo hi p f i = -1 then -1 else rest &&& (stR w lo hi p f i ^^^ (-1)) := by
  have hn24 := hI.nr.2
  unfold lvS stR
  rw [← miss_eq hI, ms_split hI, hm, Nat.zero_add, ← left_eq hI]
  by_cases q : msS w lo hi p (woA w f) (I ((i : Int) - 50)) = 0
  · rw [if_pos q, if_pos q]
    have hne : ¬ bitF (cvB w lo hi p (woA w f) (I ((i : Int) - 50))) (nn (w 9)) = -1 := by
      intro e
      have := congrArg (fun x => gb x 31) e
      rw [bitF_gb _ _ (by omega) 31 (by omega), gb_m1 (by omega), decide_eq_false (by omega)] at this
      cases this
    rw [if_neg hne, hrest]
    generalize (bitF (fun r => decide (w (191 + 5 * r) = nI p)) (nn (w 9)) &&& (bitF (fun r => decide (w (191 + 5 * r) = nI p) && ghB w r) (nn (w 9)) ^^^ (-1))) = S
    apply gb_ext
    intro r hr
    rw [gb_and, gb_and, gb_and, gb_not _ hr, gb_not _ hr, gb_not _ hr, bitF_gb _ _ (by omega) r hr, bitF_gb _ _ (by omega) r hr, bitF_gb _ _ (by omega) r hr, cv_split hI]
    cases gb S r <;> cases decide (r < nn (w 9)) <;> cases cvB w lo hi p (arI w) 0 r <;> cases cvB w lo hi p (woA w f) (I ((i : Int) - 50)) r <;> simp
  · rw [if_neg q, if_neg q, if_pos rfl]
theorem s_C_pairLoop {post : Int32 → Mem → Prop} {what rest : Int32} {A B : Nat → Int32} (hr0 : gb rest 31 = false)
    (hA : ∀ i, i < 101 → A i = if M 75 i = -1 then -1 else rest &&& (M 75 i ^^^ (-1))) (hB : ∀ i, i < 101 → B i = if M 76 i = -1 then -1 else rest &&& (M 76 i ^^^ (-1)))
    (h : post (sdW (srA A B 101) what) M) : ∃ j, P_Judge_pairStars_93 post j what rest 1 0 0 M := by
  have hneg : ∀ (X : Int32) (v : Int32), v = (if X = -1 then -1 else rest &&& (X ^^^ (-1))) → (v < 0 ↔ X = -1) := by
    intro X v hv
    rw [hv]
    by_cases q : X = -1
    · rw [if_pos q]; exact ⟨fun _ => q, fun _ => by decide⟩
    · rw [if_neg q, neg_gb, gb_and, hr0]; simp [q]
  have hle := srA_le (A := A) (B := B)
  have key : ∃ j, (¬ what = 0 → (srA A B 0).1 = 0) → P_Judge_pairStars_93 post j what rest 1 (nI (srA A B 0).1) (nI 0) M := by
    refine lpN (R := fun j a => (¬ what = 0 → (srA A B a).1 = 0) → P_Judge_pairStars_93 post j what rest 1 (nI (srA A B a).1) (nI a) M) (N := 101) (fun j hz => ?_) (fun j a ha ih hz => ?_)
    · refine ⟨fun c => absurd c (by decide), fun _ => brSt rfl ?_⟩
      unfold sdW at h
      refine ⟨fun c => ?_, fun c => ?_⟩
      · have hz := hz c
        have e99 : srA A B 101 = (0, 99, 99) := sr_zero 101 hz
        rw [if_neg c, e99] at h
        simp only [] at h
        split at h <;> exact h
      · rw [if_pos c] at h; exact h
    · refine ⟨fun c => absurd c (by decide), fun _ => brGo (N := 101) rfl (by omega) ha ?_⟩
      have hFa := hle a
      have eFa : srA A B (a + 1) = srB A B a (srA A B a) 101 := rfl
      have nxt : ∀ x6, x6 = nI (srA A B (a + 1)).1 → (¬ what = 0 → (srA A B (a + 1)).1 = 0) → P_Judge_pairStars_191 post (P_Judge_pairStars_93 post j) what rest 1 x6 (nI a) M := fun x6 e6 hz2 => by
        unfold P_Judge_pairStars_191
        rw [nI_1, e6]; exact ih hz2
      by_cases ca : M 75 a = -1
      · refine ⟨1, vin_nI ha (by omega), fun _ => ?_, fun c => absurd (by rw [nI_clamp (by omega)]; exact ca) c⟩
        have hAa : A a < 0 := (hneg _ _ (hA a ha)).mpr ca
        have : ∀ b, srB A B a (srA A B a) b = srA A B a := by
          intro b
          induction b with
          | zero => rfl
          | succ b ihb => simp only [srB]; rw [ihb]; unfold srS; rw [if_pos (Or.inl hAa)]
        rw [this 101] at eFa
        exact nxt _ (by rw [eFa]) (by rw [eFa]; exact hz)
      · have inner : ∃ q, (¬ what = 0 → (srB A B a (srA A B a) 0).1 = 0) → P_Judge_pairStars_108 post (P_Judge_pairStars_93 post j) q what rest 1 (nI (srB A B a (srA A B a) 0).1) (nI a) (nI 0) M := by
          have hGle := srB_le (A := A) (B := B) (a := a) (t := srA A B a)
          refine lpN (R := fun q b => (¬ what = 0 → (srB A B a (srA A B a) b).1 = 0) → P_Judge_pairStars_108 post (P_Judge_pairStars_93 post j) q what rest 1 (nI (srB A B a (srA A B a) b).1) (nI a) (nI b) M) (N := 101) (fun q hz2 => ?_) (fun q b hb ih2 hz2 => ?_)
          · refine ⟨vin_nI ha (by omega), fun c => absurd (by rw [nI_clamp (by omega)] at c; exact c) ca, fun _ => brSt rfl (nxt _ rfl hz2)⟩
          · have eG : srB A B a (srA A B a) (b + 1) = srS A B a b (srB A B a (srA A B a) b) := rfl
            have hAa : ¬ A a < 0 := fun e => ca ((hneg _ _ (hA a ha)).mp e)
            have no : srS A B a b (srB A B a (srA A B a) b) = srB A B a (srA A B a) b → P_Judge_pairStars_185 post (P_Judge_pairStars_93 post j) (P_Judge_pairStars_108 post (P_Judge_pairStars_93 post j) q) what rest 1 (nI (srB A B a (srA A B a) b).1) (nI a) (nI b) M := by
              intro e
              rw [eG, e] at ih2
              unfold P_Judge_pairStars_185
              rw [nI_1]; exact ih2 hz2
            refine ⟨vin_nI ha (by omega), fun c => absurd (by rw [nI_clamp (by omega)] at c; exact c) ca, fun _ => brGo (N := 101) rfl (by omega) hb ⟨vin_nI hb (by omega), ?_⟩⟩
            rw [nI_clamp (by omega), nI_clamp (by omega)]
            refine ⟨fun c => no ?_, fun c => ⟨vin_nI ha (by omega), vin_nI hb (by omega), fun v1 e1 => ?_⟩⟩
            · unfold srS; rw [if_pos (Or.inr (Or.inl ((hneg _ _ (hB b hb)).mpr c)))]
            · have hBb : ¬ B b < 0 := fun e => c ((hneg _ _ (hB b hb)).mp e)
              have ev : A a &&& B b = v1 := by
                rw [hA a ha, hB b hb, if_neg ca, if_neg c, e1]
                apply gb_ext
                intro e he
                simp only [gb_and]
                cases gb rest e <;> simp
              refine ⟨fun c3 => no ?_, fun c3 => ?_⟩
              · unfold srS; rw [if_pos (Or.inr (Or.inr (by rw [ev]; exact c3)))]
              · have hGb := hGle b
                have eS : srS A B a b (srB A B a (srA A B a) b) = ((srB A B a (srA A B a) b).1 + 1, (if (srB A B a (srA A B a) b).1 = 0 then I ((a : Int) - 50) else (srB A B a (srA A B a) b).2.1), (if (srB A B a (srA A B a) b).1 = 0 then I ((b : Int) - 50) else (srB A B a (srA A B a) b).2.2)) := by
                  unfold srS; rw [if_neg]; rintro (h | h | h)
                  · exact hAa h
                  · exact hBb h
                  · exact h (by rw [ev]; exact c3)
                have e50 : ∀ x : Nat, nI x - 50 = I ((x : Int) - 50) := fun x => by rw [nI_I, show (50 : Int32) = I 50 from rfl, I_sub]
                have fin : ¬ what = 0 → (srA A B 101).2 = (I ((a : Int) - 50), I ((b : Int) - 50)) := by
                  intro hw
                  have k1 := srB_k (A := A) (B := B) (a := a) (t := srA A B a) (b + 1) (by rw [eG, eS]; simp) (101 - (b + 1))
                  rw [show b + 1 + (101 - (b + 1)) = 101 by omega] at k1
                  have k2 := srA_k (A := A) (B := B) (a + 1) (by rw [eFa]; exact k1.2) (101 - (a + 1))
                  rw [show a + 1 + (101 - (a + 1)) = 101 by omega] at k2
                  rw [k2.1, eFa, k1.1, eG, eS, hz2 hw]; rfl
                refine ⟨fun c4 => ?_, fun c4 => ?_⟩
                · rw [eG, eS] at ih2
                  unfold P_Judge_pairStars_185
                  rw [nI_1, nI_1]; exact ih2 (fun hw => absurd c4 hw)
                · unfold sdW at h
                  rw [if_neg c4, fin c4] at h
                  refine ⟨fun c5 => ?_, fun c5 => ?_⟩
                  · rw [if_neg c5] at h
                    unfold P_Judge_pairStars_178
                    rw [e50]; exact h
                  · rw [if_pos c5] at h
                    unfold P_Judge_pairStars_178
                    rw [e50]; exact h
        obtain ⟨q, hq⟩ := inner
        exact ⟨q, hq hz⟩
  obtain ⟨j, hj⟩ := key
  exact ⟨j, hj (fun _ => rfl)⟩
theorem s_R_stars {post : Int32 → Mem → Prop} {ex : String → Mem → Prop} {p f s what : Int32} (hD : Dk 1 M w) (hI : WInv w) (hL : Lw M w) (hS : SpOK w (-1) 0 lo hi (nn (w 9)))
    (h : QX post ex M w [IOB, NSE] (qpw w p (inb what 0 2) (sdW (srA (lvS w lo hi (nn p) f) (lvS w lo hi (nn p) s) 101) what))) : P_R_stars post ex p f s what M := by
  refine s_qpw' hD hI hL hS h (fun hp hp3 hw M1 hJ hpost => ?_)
  have hn24 := hI.nr.2
  refine s_C_airBits hJ.1 hI (s_C_survey (lo := lo) (hi := hi) hJ.1 hI hp3 hJ.2.2.1.1 hJ.2.2.2 (fun M2 f2 a2 b2 rest er => ?_))
  have hJ2 := hJ.t f2.t
  rw [hJ2.2.2.1.2.1, hJ2.2.2.1.2.2.1, a2] at er
  have hm36 := msS_le (lo := lo) (hi := hi) (p := nn p) (el := arI w) (speed := 0) hI
  have b2' : M2 69 14 = nI (msS w lo hi (nn p) (arI w) 0) := b2
  have hr0 : gb rest 31 = false := by
    rw [er, gb_and, gb_and, bitF_gb _ _ (by omega) 31 (by omega), decide_eq_false (by omega)]; rfl
  have stars : ∀ {s0 : Int32}, (∀ M4, FrT M2 M4 → (∀ i, i < 101 → M4 75 i = stR w lo hi (nn p) f i) → (∀ i, i < 101 → M4 76 i = stR w lo hi (nn p) s i) → ∃ j, P_Judge_pairStars_93 post j what rest s0 0 0 M4) → P_Judge_pairStars_47 post f s what rest s0 M2 := by
    intro s0 hs
    refine s_C_withoutAir hJ2.1 hI (s_C_putStar hJ2 hI hp3 (fun M3 f3 g3 h3 => ?_))
    have hJ3 := hJ2.t f3
    refine s_C_withoutAir hJ3.1 hI (s_C_putStar2 hJ3 hI hp3 (fun M4 f4 g4 h4 => hs M4 (f3.trans f4) (fun i hi => ?_) h4))
    rw [g4 75 (by omega) (by omega)]; exact h3 i hi
  rw [b2']
  generalize hG : msS w lo hi (nn p) (arI w) 0 = G at hm36
  refine ⟨fun c => stars (fun M4 f4 _ _ => ?_), fun c => stars (fun M4 f4 h75 h76 => ?_)⟩
  · have hG0 : ¬ G = 0 := fun q => c (by rw [q]; rfl)
    have hno : ∀ a, a < 101 → lvS w lo hi (nn p) f a < 0 := by
      intro a _
      unfold lvS
      rw [← miss_eq hI, ms_split hI, hG, if_neg (by omega)]; decide
    have hpost := hpost M4 (f2.t.trans f4)
    rw [srA_none hno 101 (by omega)] at hpost
    unfold sdW at hpost
    simp only [] at hpost
    refine ⟨1, fun _ => ⟨fun c2 => ?_, fun c2 => ?_⟩, fun c => absurd rfl c⟩
    · rw [if_neg c2] at hpost
      split at hpost <;> exact hpost
    · rw [if_pos c2] at hpost; exact hpost
  · have hG0 : G = 0 := by rw [← nI_0, nI_eq (by omega) (by omega)] at c; exact c
    rw [hG0] at hG
    refine s_C_pairLoop hr0 (A := lvS w lo hi (nn p) f) (B := lvS w lo hi (nn p) s) (fun i hi => ?_) (fun i hi => ?_) (hpost M4 (f2.t.trans f4))
    · rw [h75 i hi]; exact sr_hit (s := 0) hI er hG i
    · rw [h76 i hi]; exact sr_hit (s := 0) hI er hG i
end STARS
