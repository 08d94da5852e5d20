/-! THE CLASS READS A TEXT: the grammar -/
def FrG (M0 M : Mem) : Prop := (∀ c, c ≠ 84 → c ≠ 88 → M c = M0 c) ∧ ∀ k, k ≠ 6 → k ≠ 7 → k ≠ 8 → M 84 k = M0 84 k
/-- the class at a sign i, with these steps -/
def CR (M0 : Mem) (K i : Nat) (c : List Nat) (M : Mem) : Prop := FrG M0 M ∧ M 84 6 = nI i ∧ i ≤ K ∧ M 84 7 = nI c.length ∧ M 84 8 = -1 ∧ ∀ k x, c[k]? = some x → M 88 k = nI x
/-- it has failed at a byte f -/
def CF (M0 : Mem) (f : Nat) (M : Mem) : Prop := FrG M0 M ∧ M 84 8 = nI f
/-- a reader of the class reads what the grammar says -/
def RdC (M0 : Mem) (t : Nat → Int32) (L K : Nat) (RA : (Int32 → Mem → Prop) → Mem → Prop) (item : Nat → PRs) : Prop := ∀ (post : Int32 → Mem → Prop) (M : Mem) (i : Nat) (c : List Nat), CR M0 K i c M → c.length < 400 → c.length ≤ bsF t L i →
  ((item (bsF t L i)).1 = true → ∀ M' q, CR M0 K q (c ++ (item (bsF t L i)).2.2) M' → bsF t L q = (item (bsF t L i)).2.1 → post 1 M') →
  ((item (bsF t L i)).1 = false → ∀ M', CF M0 (item (bsF t L i)).2.1 M' → post 0 M') → RA post M
section CGRAM
variable {M0 M : Mem} {L K i : Nat} {t : Nat → Int32} {c : List Nat}
theorem CR.sg (h : CR M0 K i c M) (hS : SgC M0 t L K) : SgC M t L K := by
  obtain ⟨s1, s2, s3, s4, s5⟩ := hS
  refine ⟨by rw [h.1.2 5 (by omega) (by omega) (by omega)]; exact s1, s2, s3, s4, fun k hk => ?_⟩
  rw [h.1.1 87 (by omega) (by omega), h.1.1 86 (by omega) (by omega)]
  exact s5 k hk
theorem SgC.le (hS : SgC M0 t L K) (hi : i ≤ K) : bsF t L i ≤ L := by
  by_cases e : i = K
  · rw [e, hS.2.2.1]; exact Nat.le_refl _
  · exact Nat.le_of_lt (hS.2.2.2.1 i (by omega))
theorem SgC.lt (hS : SgC M0 t L K) (hL4 : L ≤ 400) (hi : i ≤ K) (hk : kdT t L (bsF t L i) % 32 ≠ 17) : i < K := by
  refine Nat.lt_of_le_of_ne hi (fun e => hk ?_)
  rw [((kdT_ts (t := t) hL4).2.2.1 _ (hS.le hi)).mpr (by rw [e]; exact hS.2.2.1)]
theorem s_C_nextIs {post : Int32 → Mem → Prop} {k : Nat} (hL4 : L ≤ 400) (hS : SgC M0 t L K) (hM : CR M0 K i c M) (hk : k < 32) (h : post (bi (decide (kdT t L (bsF t L i) % 32 = k))) M) : P_Reader_nextIs post (nI k) M := by
  have hs := hM.sg hS
  have hK := hs.2.1
  have hi := hM.2.2.1
  have hkd := (kdT_ts (t := t) hL4).2.1 (bsF t L i)
  unfold P_Reader_nextIs
  rw [hM.2.1, nI_clamp (by omega), (hs.2.2.2.2 i hi).2]
  have e1 : irm (nI (kdT t L (bsF t L i))) 32 = nI (kdT t L (bsF t L i) % 32) := by
    rw [show (32 : Int32) = nI 32 from rfl, nI_I, nI_I, I_rem (by omega) (by omega), nI_I]; rfl
  rw [e1, nI_eq (by omega) (by omega)]
  refine ⟨vin_nI (by omega) (by omega), fun q => ?_, fun q => ?_⟩
  · rw [decide_eq_false q] at h; exact ⟨Or.inl rfl, h⟩
  · rw [decide_eq_true q] at h; exact ⟨Or.inr rfl, h⟩
theorem CR.to (h : CR M0 K i c M) {q : Nat} (hq : q ≤ K) : CR M0 K q c (ms M 84 6 (nI q)) := by
  obtain ⟨h1, h2, h3, h4, h5, h6⟩ := h
  refine ⟨⟨fun d a b => by rw [ms_off _ _ _ a]; exact h1.1 d a b, fun k a b e => by rw [ms_ne _ _ _ a]; exact h1.2 k a b e⟩, ms_at .., hq, by rw [ms_ne _ _ _ (by omega)]; exact h4, by rw [ms_ne _ _ _ (by omega)]; exact h5, fun k x hx => ?_⟩
  rw [ms_off _ _ _ (by omega)]; exact h6 k x hx
theorem sg_C {post : Int32 → Mem → Prop} {op : Nat} (hL4 : L ≤ 400) (hS : SgC M0 t L K) (ho : 0 < op ∧ op < 17) (hM : CR M0 K i c M)
    (h1 : kdT t L (bsF t L i) = op → i < K → ∀ M', CR M0 K (i + 1) c M' → post 1 M') (h0 : kdT t L (bsF t L i) ≠ op → post 0 M) : P_Reader_takeSign post (nI op) M := by
  have hkd := (kdT_ts (t := t) hL4).2.1 (bsF t L i)
  refine s_C_nextIs hL4 hS hM (by omega) (bn0 (fun q => h0 ?_) (fun q => ?_))
  · have := of_decide_eq_false q; omega
  · have q := of_decide_eq_true q
    have hlt := hS.lt hL4 hM.2.2.1 (by omega)
    have hs := hM.sg hS
    have hK := hs.2.1
    rw [hs.1, hM.2.1, nI_le_iff (by omega) (by omega)]
    refine ⟨fun q2 => by omega, fun _ M2 m2 => ?_⟩
    rw [nI_1] at m2
    rw [m2]
    exact h1 (by omega) hlt _ (hM.to (by omega))
theorem sg_Cend {post : Int32 → Mem → Prop} (hL4 : L ≤ 400) (hS : SgC M0 t L K) (hM : CR M0 K i c M) (h1 : kdT t L (bsF t L i) = 17 → post 1 M) (h0 : kdT t L (bsF t L i) ≠ 17 → post 0 M) : P_Reader_takeSign post (17 : Int32) M := by
  have hkd := (kdT_ts (t := t) hL4).2.1 (bsF t L i)
  refine s_C_nextIs (k := 17) hL4 hS hM (by omega) (bn0 (fun q => h0 ?_) (fun q => ?_))
  · have := of_decide_eq_false q; omega
  · have q := of_decide_eq_true q
    have hs := hM.sg hS
    have hK := hs.2.1
    have hiK : K ≤ i := by
      refine Nat.le_of_not_lt (fun hlt => ?_)
      have h2 := hS.2.2.2.1 i hlt
      have h3 := ((kdT_ts (t := t) hL4).2.2.1 _ (Nat.le_of_lt h2)).mp (by omega)
      omega
    have hi := hM.2.2.1
    rw [hs.1, hM.2.1, nI_le_iff (by omega) (by omega)]
    exact ⟨fun _ => h1 (by omega), fun q2 => absurd hiK q2⟩
theorem s_C_emit {post : Int32 → Mem → Prop} {x : Nat} (hc : c.length < 400) (hM : CR M0 K i c M) (h : ∀ M', CR M0 K i (c ++ [x]) M' → post 1 M') : P_Reader_emit post (nI x) M := by
  unfold P_Reader_emit
  obtain ⟨h1, h2, h3, h4, h5, h6⟩ := hM
  rw [h4, lit_nI 400, nI_le_iff (by omega) (by omega), nI_clamp (by omega)]
  refine ⟨fun q => by omega, fun _ => ⟨vin_nI (by omega) (by omega), fun M1 m1 M2 m2 => ?_⟩⟩
  have e7 : M1 84 7 = nI c.length := by rw [m1, ms_off _ _ _ (by omega)]; exact h4
  rw [e7, nI_1] at m2
  refine h M2 ⟨⟨fun d a b => by rw [m2, ms_off _ _ _ a, m1, ms_off _ _ _ b]; exact h1.1 d a b, fun k a b e => by rw [m2, ms_ne _ _ _ b, m1, ms_off _ _ _ (by omega)]; exact h1.2 k a b e⟩, ?_, h3, ?_, ?_, fun k y hy => ?_⟩
  · rw [m2, ms_ne _ _ _ (by omega), m1, ms_off _ _ _ (by omega)]; exact h2
  · rw [m2, ms_at]; simp
  · rw [m2, ms_ne _ _ _ (by omega), m1, ms_off _ _ _ (by omega)]; exact h5
  · rw [m2, ms_off _ _ _ (by omega), m1]
    by_cases e : k = c.length
    · rw [e, List.getElem?_append_right (Nat.le_refl _), Nat.sub_self] at hy
      have hy : x = y := Option.some.inj hy
      rw [e, ms_at, hy]
    · rw [ms_ne _ _ _ e]
      by_cases e2 : k < c.length
      · rw [List.getElem?_append_left e2] at hy; exact h6 k y hy
      · rw [List.getElem?_eq_none (by simp; omega)] at hy; cases hy
theorem s_C_fail {post : Int32 → Mem → Prop} (hS : SgC M0 t L K) (hM : CR M0 K i c M) (h : ∀ M', CF M0 (bsF t L i) M' → post 0 M') : P_Reader_fail post M := by
  have hs := hM.sg hS
  have hK := hs.2.1
  have hi := hM.2.2.1
  unfold P_Reader_fail
  rw [hM.2.1, nI_clamp (by omega), (hs.2.2.2.2 i hi).1]
  refine ⟨vin_nI (by omega) (by omega), fun M1 m1 => h M1 ⟨⟨fun d a b => ?_, fun k a b e => ?_⟩, by rw [m1, ms_at]⟩⟩
  · rw [m1, ms_off _ _ _ a]; exact hM.1.1 d a b
  · rw [m1, ms_ne _ _ _ e]; exact hM.1.2 k a b e
theorem rdC_many {RA : (Int32 → Mem → Prop) → Mem → Prop} {Lp : (Int32 → Mem → Prop) → Nat → Int32 → Mem → Prop} {op : Nat} {item : Nat → PRs} (hL4 : L ≤ 400) (hS : SgC M0 t L K) (ho : 0 < op ∧ op < 17) (hg : Good L item) (hR : RdC M0 t L K RA item)
    (hst : ∀ post n x M, ((400 : Int32) ≤ x → post (1 : Int32) M) ∧ (¬ (400 : Int32) ≤ x → P_Reader_takeSign (fun r1 M1 => (r1 = 0 → post (1 : Int32) M1) ∧ (¬ r1 = 0 → RA (fun r2 M2 => (¬ r2 = 0 → P_Reader_emit (fun r3 M3 => Lp post n (x + (1 : Int32)) M3) (nI op) M2) ∧ (r2 = 0 → post (0 : Int32) M2)) M1)) (nI op) M) → Lp post (n + 1) x M) :
    RdC M0 t L K (fun post M => RA (fun r1 M1 => (¬ r1 = 0 → ∃ j, Lp post j 0 M1) ∧ (r1 = 0 → post (0 : Int32) M1)) M) (pMany (kdT t L) (nxT t L) op item) := by
  intro post M i c0 hM hc4 hcb h1 h0
  have hts := kdT_ts (t := t) hL4
  have hbL : bsF t L i ≤ L := hS.le hM.2.2.1
  have key : ∀ (n b k : Nat) (cc : List Nat), k + n = 400 → (c0 ++ cc).length ≤ b → b ≤ L →
      ((pLoop (kdT t L) (nxT t L) op item n b cc).1 = true → ∀ M' q, CR M0 K q (c0 ++ (pLoop (kdT t L) (nxT t L) op item n b cc).2.2) M' → bsF t L q = (pLoop (kdT t L) (nxT t L) op item n b cc).2.1 → post 1 M') →
      ((pLoop (kdT t L) (nxT t L) op item n b cc).1 = false → ∀ M', CF M0 (pLoop (kdT t L) (nxT t L) op item n b cc).2.1 M' → post 0 M') → ∃ j, ∀ M1 q, CR M0 K q (c0 ++ cc) M1 → bsF t L q = b → Lp post j (nI k) M1 := by
    intro n
    induction n with
    | zero =>
      intro b k cc hk _ hb k1 _
      have hk : k = 400 := by omega
      subst hk
      exact ⟨1, fun M1 q a1 hq => hst _ _ _ _ ⟨fun _ => k1 rfl M1 q a1 hq, fun z => absurd (show (400 : Int32) ≤ nI 400 by decide) z⟩⟩
    | succ n ih =>
      intro b k cc hk hlen hb k1 k0
      have no4 : ∀ X : Prop, (400 : Int32) ≤ nI k → X := fun X z => by rw [lit_nI 400, nI_le_iff (by omega) (by omega)] at z; omega
      unfold pLoop at k1 k0
      by_cases hkd : kdT t L b = op
      · rw [if_pos hkd] at k1 k0
        have hnx := hts.next hb (by rw [hkd]; omega)
        have hi := hg (nxT t L b) hnx.2.2
        by_cases hok : (item (nxT t L b)).1 = true
        · rw [if_pos hok] at k1 k0
          have hi := hi.1 hok
          obtain ⟨j, hj⟩ := ih _ (k + 1) _ (by omega) (by simp only [List.length_append, List.length_singleton] at *; omega) hi.2.1 k1 k0
          refine ⟨j + 1, fun M1 q a1 hq => hst _ _ _ _ ⟨no4 _, fun _ => sg_C hL4 hS ho a1 (fun _ _ M2 a2 => ?_) (fun hne => absurd (by rw [hq]; exact hkd) hne)⟩⟩
          have e2 : bsF t L (q + 1) = nxT t L b := by show nxT t L (bsF t L q) = _; rw [hq]
          refine ⟨fun z => absurd z (by decide), fun _ => hR _ M2 (q + 1) _ a2 (by simp only [List.length_append] at *; omega) (by rw [e2]; simp only [List.length_append] at *; omega) (fun _ M3 q3 a3 e4 => ?_) (fun hbad => ?_)⟩
          · rw [e2] at a3 e4
            refine ⟨fun _ => s_C_emit (x := op) (by simp only [List.length_append] at *; omega) a3 (fun M4 a4 => ?_), fun z => absurd z (by decide)⟩
            rw [nI_1]
            refine hj M4 q3 ?_ e4
            simpa [List.append_assoc] using a4
          · rw [e2, hok] at hbad; cases hbad
        · have hok : (item (nxT t L b)).1 = false := by simpa using hok
          rw [hok] at k1 k0
          refine ⟨1, fun M1 q a1 hq => hst _ _ _ _ ⟨no4 _, fun _ => sg_C hL4 hS ho a1 (fun _ _ M2 a2 => ?_) (fun hne => absurd (by rw [hq]; exact hkd) hne)⟩⟩
          have e2 : bsF t L (q + 1) = nxT t L b := by show nxT t L (bsF t L q) = _; rw [hq]
          refine ⟨fun z => absurd z (by decide), fun _ => hR _ M2 (q + 1) _ a2 (by simp only [List.length_append] at *; omega) (by rw [e2]; simp only [List.length_append] at *; omega) (fun hgd => ?_) (fun _ M3 f3 => ?_)⟩
          · rw [e2, hok] at hgd; cases hgd
          · rw [e2] at f3
            exact ⟨fun z => absurd (by decide) z, fun _ => k0 rfl M3 f3⟩
      · rw [if_neg hkd] at k1 k0
        refine ⟨1, fun M1 q a1 hq => hst _ _ _ _ ⟨no4 _, fun _ => sg_C hL4 hS ho a1 (fun he => absurd (by rw [← hq]; exact he) hkd) (fun _ => ?_)⟩⟩
        exact ⟨fun _ => k1 rfl M1 q a1 hq, fun z => absurd (by decide) z⟩
  unfold pMany at h1 h0
  have hi := hg _ hbL
  by_cases hok : (item (bsF t L i)).1 = true
  · rw [if_pos hok] at h1 h0
    have hi := hi.1 hok
    obtain ⟨j, hj⟩ := key 400 _ 0 _ (by omega) (by simp only [List.length_append]; omega) hi.2.1 h1 h0
    refine hR _ M i c0 hM hc4 hcb (fun _ M2 q2 a2 e2 => ⟨fun _ => ⟨j, hj M2 q2 a2 e2⟩, fun z => absurd z (by decide)⟩) (fun hbad => ?_)
    rw [hok] at hbad; cases hbad
  · have hok : (item (bsF t L i)).1 = false := by simpa using hok
    rw [hok] at h1 h0
    refine hR _ M i c0 hM hc4 hcb (fun hgd => ?_) (fun _ M2 f2 => ⟨fun z => absurd (by decide) z, fun _ => h0 rfl M2 f2⟩)
    rw [hok] at hgd; cases hgd
theorem rdC_all {RA : (Int32 → Mem → Prop) → Int32 → Mem → Prop} {x : Int32} {item : Nat → PRs} (hL4 : L ≤ 400) (hS : SgC M0 t L K) (hg : Good L item) (hR : RdC M0 t L K (fun post M => RA post x M) item) : RdC M0 t L K (fun post M => P_Reader_readAll RA post x M) (pMany (kdT t L) (nxT t L) 12 item) :=
  rdC_many (RA := fun post M => RA post x M) (Lp := fun post j y M => P_Reader_readAll_12 RA post j x y M) (op := 12) hL4 hS (by omega) hg hR (fun post n y M h => h)
theorem rdC_any {RA : (Int32 → Mem → Prop) → Int32 → Mem → Prop} {x : Int32} {item : Nat → PRs} (hL4 : L ≤ 400) (hS : SgC M0 t L K) (hg : Good L item) (hR : RdC M0 t L K (fun post M => RA post x M) item) : RdC M0 t L K (fun post M => P_Reader_readAny RA post x M) (pMany (kdT t L) (nxT t L) 13 (pMany (kdT t L) (nxT t L) 12 item)) :=
  rdC_many (RA := fun post M => P_Reader_readAll RA post x M) (Lp := fun post j y M => P_Reader_readAny_12 RA post j x y M) (op := 13) hL4 hS (by omega) (good_many (kdT_ts hL4) (by decide) hg) (rdC_all hL4 hS hg hR) (fun post n y M h => h)
/-- the rest of a sum from an item on -/
def pSumG (kd nx : Nat → Nat) (n k b : Nat) (cc : List Nat) : PRs := if kd b % 32 ≤ 5 then pLoop kd nx 9 (pPart kd nx) n (nx b) (cc ++ [kd b] ++ (if k = 0 then [] else [9])) else pFail b
theorem pSumG_0 {kd nx : Nat → Nat} {b : Nat} : pSumG kd nx 400 0 b [] = pSum kd nx b := by
  unfold pSumG pSum pMany
  by_cases h : kd b % 32 ≤ 5
  · have e : pPart kd nx b = (true, nx b, [kd b]) := by unfold pPart; rw [if_pos h]
    rw [if_pos h, e]; rfl
  · have e : pPart kd nx b = pFail b := by unfold pPart; rw [if_neg h]
    rw [if_neg h, e]; rfl
theorem pSumG_s {kd nx : Nat → Nat} {b n k : Nat} {cc : List Nat} : pLoop kd nx 9 (pPart kd nx) (n + 1) b cc = if kd b = 9 then pSumG kd nx n (k + 1) (nx b) cc else (true, b, cc) := by
  show (if kd b = 9 then _ else _) = _
  by_cases hb : kd b = 9
  · rw [if_pos hb, if_pos hb]
    unfold pSumG
    by_cases h : kd (nx b) % 32 ≤ 5
    · have e : pPart kd nx (nx b) = (true, nx (nx b), [kd (nx b)]) := by unfold pPart; rw [if_pos h]
      rw [if_pos h, e, if_neg (show ¬ (k + 1 = 0) by omega)]; rfl
    · have e : pPart kd nx (nx b) = pFail (nx b) := by unfold pPart; rw [if_neg h]
      rw [if_neg h, e]; rfl
  · rw [if_neg hb, if_neg hb]
theorem rdC_sum (hL4 : L ≤ 400) (hS : SgC M0 t L K) : RdC M0 t L K P_Reader_readSum (pSum (kdT t L) (nxT t L)) := by
  intro post M i c0 hM hc4 hcb h1 h0
  have hts := kdT_ts (t := t) hL4
  have hbL : bsF t L i ≤ L := hS.le hM.2.2.1
  have stop : ∀ (n k b : Nat) (cc : List Nat), ¬ kdT t L b % 32 ≤ 5 → k ≤ 400 → ((pSumG (kdT t L) (nxT t L) n k b cc).1 = false → ∀ M', CF M0 (pSumG (kdT t L) (nxT t L) n k b cc).2.1 M' → post 0 M') → ∃ j, ∀ M1 q, CR M0 K q (c0 ++ cc) M1 → bsF t L q = b → P_Reader_readSum_2 post j (nI k) M1 := by
    intro n k b cc hp hk k0
    have hkd := hts.2.1 b
    have e1 : irm (nI (kdT t L b)) 32 = nI (kdT t L b % 32) := by
      rw [show (32 : Int32) = nI 32 from rfl, nI_I, nI_I, I_rem (by omega) (by omega), nI_I]; rfl
    unfold pSumG at k0
    rw [if_neg hp] at k0
    refine ⟨1, fun M1 q a1 hq => ?_⟩
    have hfail : P_Reader_fail (fun r1 M1 => (r1 = 0 ∨ r1 = 1) ∧ post r1 M1) M1 := s_C_fail hS a1 (fun M2 f2 => ⟨Or.inl rfl, k0 rfl M2 (by rw [hq] at f2; exact f2)⟩)
    have hs := a1.sg hS
    have hK := hs.2.1
    have hqK := a1.2.2.1
    refine ⟨fun _ => hfail, fun _ => ?_⟩
    rw [a1.2.1, nI_clamp (by omega), (hs.2.2.2.2 q hqK).2, hq, e1, lit_nI 5, nI_le_iff (by omega) (by omega)]
    exact ⟨vin_nI (by omega) (by omega), fun z => absurd z hp, fun _ => hfail⟩
  have key : ∀ (n k b : Nat) (cc : List Nat), L ≤ b + n → k ≤ b → (c0 ++ cc).length + (if k = 0 then 0 else 1) ≤ b → b ≤ L →
      ((pSumG (kdT t L) (nxT t L) n k b cc).1 = true → ∀ M' q, CR M0 K q (c0 ++ (pSumG (kdT t L) (nxT t L) n k b cc).2.2) M' → bsF t L q = (pSumG (kdT t L) (nxT t L) n k b cc).2.1 → post 1 M') →
      ((pSumG (kdT t L) (nxT t L) n k b cc).1 = false → ∀ M', CF M0 (pSumG (kdT t L) (nxT t L) n k b cc).2.1 M' → post 0 M') → ∃ j, ∀ M1 q, CR M0 K q (c0 ++ cc) M1 → bsF t L q = b → P_Reader_readSum_2 post j (nI k) M1 := by
    intro n
    induction n with
    | zero =>
      intro k b cc hn hkb hlen hb k1 k0
      exact stop 0 k b cc (by have := (hts.2.2.1 b hb).mpr (by omega); omega) (by omega) k0
    | succ n ih =>
      intro k b cc hn hkb hlen hb k1 k0
      have hkd := hts.2.1 b
      have e1 : irm (nI (kdT t L b)) 32 = nI (kdT t L b % 32) := by
        rw [show (32 : Int32) = nI 32 from rfl, nI_I, nI_I, I_rem (by omega) (by omega), nI_I]; rfl
      unfold pSumG at k1 k0
      by_cases hp : kdT t L b % 32 ≤ 5
      · rw [if_pos hp] at k1 k0
        have hnx := hts.next hb (by omega)
        -- behind the item
        have tail : ∃ j, ∀ M1 q, CR M0 K q (c0 ++ (cc ++ [kdT t L b] ++ (if k = 0 then [] else [9]))) M1 → bsF t L q = nxT t L b → P_Reader_readSum_65 post (P_Reader_readSum_2 post j) (nI k) M1 := by
          have hlen2 : (c0 ++ (cc ++ [kdT t L b] ++ (if k = 0 then [] else [9]))).length ≤ nxT t L b := by
            simp only [List.length_append, List.length_singleton] at *
            split at hlen <;> rename_i hk0
            · rw [if_pos hk0]; simp; omega
            · rw [if_neg hk0]; simp; omega
          generalize (cc ++ [kdT t L b] ++ (if k = 0 then [] else [9])) = c2 at k1 k0 hlen2
          rw [pSumG_s (k := k)] at k1 k0
          by_cases h9 : kdT t L (nxT t L b) = 9
          · rw [if_pos h9] at k1 k0
            have hnx2 := hts.next hnx.2.2 (by rw [h9]; decide)
            obtain ⟨j, hj⟩ := ih (k + 1) (nxT t L (nxT t L b)) c2 (by omega) (by omega) (by rw [if_neg (by omega)]; omega) hnx2.2.2 k1 k0
            refine ⟨j, fun M1 q a1 hq => sg_C (op := 9) hL4 hS (by omega) a1 (fun _ _ M2 a2 => ⟨fun _ => ?_, fun z => absurd z (by decide)⟩) (fun hne => absurd (by rw [hq]; exact h9) hne)⟩
            rw [nI_1]
            exact hj M2 (q + 1) a2 (by show nxT t L (bsF t L q) = _; rw [hq])
          · rw [if_neg h9] at k1 k0
            refine ⟨1, fun M1 q a1 hq => sg_C (op := 9) hL4 hS (by omega) a1 (fun he => absurd (by rw [← hq]; exact he) h9) (fun _ => ⟨fun z => absurd (by decide) z, fun _ => k1 rfl M1 q a1 hq⟩)⟩
        obtain ⟨j, hj⟩ := tail
        refine ⟨j + 1, fun M1 q a1 hq => ⟨fun z => ?_, fun _ => ?_⟩⟩
        · rw [lit_nI 400, nI_le_iff (by omega) (by omega)] at z; omega
        · have hs := a1.sg hS
          have hK := hs.2.1
          have hqK := a1.2.2.1
          have hlt := hS.lt hL4 hqK (by rw [hq]; omega)
          rw [a1.2.1, nI_clamp (by omega), (hs.2.2.2.2 q hqK).2, hq, e1, lit_nI 5, nI_le_iff (by omega) (by omega)]
          have hv : vp_in (nI q) 401 := vin_nI (by omega) (by omega)
          have hl1 : (c0 ++ cc).length < 400 := by split at hlen <;> omega
          refine ⟨hv, fun _ => ⟨hv, s_C_emit hl1 a1 (fun M2 a2 M3 m3 => ?_)⟩, fun z => absurd hp z⟩
          rw [a2.2.1, nI_1] at m3
          have a3 : CR M0 K (q + 1) (c0 ++ cc ++ [kdT t L b]) M3 := by rw [m3]; exact a2.to (by omega)
          have eq3 : bsF t L (q + 1) = nxT t L b := by show nxT t L (bsF t L q) = _; rw [hq]
          rw [show (0 : Int32) = nI 0 from rfl, nI_le_iff (by omega) (by omega)]
          refine ⟨fun z => hj M3 (q + 1) ?_ eq3, fun z => s_C_emit (x := 9) ?_ a3 (fun M4 a4 => hj M4 (q + 1) ?_ eq3)⟩
          · rw [if_pos (by omega)]; simpa [List.append_assoc] using a3
          · rw [if_neg (by omega)] at hlen
            simp only [List.length_append, List.length_singleton] at *; omega
          · rw [if_neg (by omega)]; simpa [List.append_assoc] using a4
      · exact stop (n + 1) k b cc hp (by omega) (by unfold pSumG; exact k0)
  rw [← pSumG_0] at h1 h0
  obtain ⟨j, hj⟩ := key 400 0 (bsF t L i) [] (by omega) (by omega) (by simp; omega) hbL h1 h0
  exact ⟨j, hj M i (by simpa using hM) rfl⟩
theorem rdC_elem {post : Int32 → Mem → Prop} {st : Nat} (hL4 : L ≤ 400) (hS : SgC M0 t L K) (hM : CR M0 K i c M) (hc4 : c.length < 400) (hst : st = 6 ∨ st = 7)
    (h1 : (pElem (kdT t L) (nxT t L) st (bsF t L i)).1 = true → ∀ M' q, CR M0 K q (c ++ (pElem (kdT t L) (nxT t L) st (bsF t L i)).2.2) M' → bsF t L q = (pElem (kdT t L) (nxT t L) st (bsF t L i)).2.1 → post 1 M')
    (h0 : (pElem (kdT t L) (nxT t L) st (bsF t L i)).1 = false → ∀ M', CF M0 (pElem (kdT t L) (nxT t L) st (bsF t L i)).2.1 M' → post 0 M') : P_Reader_readElement (fun r M => (r = 0 ∨ r = 1) ∧ post r M) (nI st) M := by
  have hkd := (kdT_ts (t := t) hL4).2.1 (bsF t L i)
  have hs := hM.sg hS
  have hK := hs.2.1
  have hi := hM.2.2.1
  unfold P_Reader_readElement
  rw [hM.2.1, nI_clamp (by omega), (hs.2.2.2.2 i hi).2]
  refine ⟨vin_nI (by omega) (by omega), fun x2 e2 => ?_⟩
  rw [lit_nI 32, nI_div (by omega) (by omega) (by omega)] at e2
  subst e2
  have bad : ¬ (kdT t L (bsF t L i) % 32 = 0 ∧ kdT t L (bsF t L i) / 32 < 6) → P_Reader_readElement_27 (fun r M => (r = 0 ∨ r = 1) ∧ post r M) M := by
    intro hb
    unfold pElem at h0
    rw [if_neg hb] at h0
    exact s_C_fail hS hM (fun M2 f2 => ⟨Or.inl rfl, Or.inl rfl, h0 rfl M2 f2⟩)
  refine s_C_nextIs (k := 0) hL4 hS hM (by omega) (b0n (fun q => bad (fun z => ?_)) (fun q => ⟨fun q2 M3 m3 => ?_, fun q2 => bad (fun z => q2 ?_)⟩))
  · exact absurd z.1 (of_decide_eq_false q)
  · have q := of_decide_eq_true q
    rw [lit_nI 6, nI_I, nI_I, I_lt (by omega) (by omega)] at q2
    have hlt := hS.lt hL4 hi (by omega)
    unfold pElem at h1
    rw [if_pos ⟨q, by omega⟩] at h1
    rw [hM.2.1, nI_1] at m3
    have a3 : CR M0 K (i + 1) c M3 := by rw [m3]; exact hM.to (by omega)
    show P_Reader_emit _ (nI st + (32 : Int32) * nI (kdT t L (bsF t L i) / 32)) M3
    rw [lit_nI 32, pk_mul, nI_add]
    exact s_C_emit hc4 a3 (fun M4 a4 => ⟨Or.inr rfl, Or.inr rfl, h1 rfl M4 (i + 1) a4 rfl⟩)
  · rw [lit_nI 6, nI_I, nI_I, I_lt (by omega) (by omega)]; omega
end CGRAM
