/-! THE REFERENCE READS A TEXT: the grammar -/
/-- a reader of the reference reads what the grammar says -/
def RdM (M0 : Mem) (L : Nat) (t : Nat → Int32) (d : Nat) (RA : (Int32 → Mem → Prop) → Mem → Prop) (item : Nat → PRs) : Prop := ∀ (post : Int32 → Mem → Prop) (M : Mem) (p : Nat) (c : List Nat), MR M0 L p d c M → c.length < 400 → c.length ≤ rn (isSp t) L p →
  ((item (rn (isSp t) L p)).1 = true → ∀ M' q, MR M0 L q d (c ++ (item (rn (isSp t) L p)).2.2) M' → rn (isSp t) L q = (item (rn (isSp t) L p)).2.1 → post 1 M') →
  ((item (rn (isSp t) L p)).1 = false → ∀ M', MF M0 (item (rn (isSp t) L p)).2.1 M' → post 0 M') → RA post M
section REFG
variable {M0 : Mem} {L d : Nat} {t : Nat → Int32}
theorem skn {q : Nat} {b : Nat} (h : rn (isSp t) L q = nxT t L b) (hb : b < L) : rn (isSp t) L q ≤ L ∧ b < rn (isSp t) L q := by rw [h]; exact ⟨(nxT_bd hb).2, (nxT_bd hb).1⟩
theorem rd_part (hL4 : L ≤ 400) (hL : M0 0 21 = nI L) (ht : M0 10 = t) : RdM M0 L t d P_M_readPart (pPart (kdT t L) (nxT t L)) := by
  intro post M p c hM hc4 hcb h1 h0
  have hbL : rn (isSp t) L p ≤ L := rn_le hM.2.2.1
  have hts := kdT_ts (t := t) hL4
  generalize hb : rn (isSp t) L p = b at *
  have hge := rn_ge (p := isLe t) hbL
  have hle := rn_le (p := isLe t) hbL
  refine s_M_letters hL4 hL ht hM (fun M1 a1 e1 => ?_)
  rw [hb] at a1 e1
  rw [a1.2.1, e1, nI_eq (by omega) (by omega)]
  refine ⟨fun cl => ?_, fun cn => ?_⟩
  · have hlt : b < L ∧ isLe t b = true := by
      by_cases hq : b < L ∧ isLe t b = true
      · exact hq
      · exact absurd (rn_stop hq) cl
    have hE : tE t L b = rn (isLe t) L b := by unfold tE; rw [hlt.2]; rfl
    have hkd : kdT t L b = wK (wd t b (rn (isLe t) L b)) := by unfold kdT; rw [if_pos hlt.1, hlt.2, hE]; rfl
    have good : ∀ (s : Nat) (M2 : Mem), MR M0 L (rn (isLe t) L b) d c M2 → M2 0 22 = nI b → kdT t L b = s → 0 < s → s ≤ 5 → P_M_readPart_100 post (trS s) M2 := by
      intro s M2 a2 e2 hk hs0 hs5
      have hnn : ¬ trS s < 0 := by rcases (by omega : s = 1 ∨ s = 2 ∨ s = 3 ∨ s = 4 ∨ s = 5) with rfl | rfl | rfl | rfl | rfl <;> decide
      refine ⟨fun q => absurd q hnn, fun _ => s_M_emits (x := s) hc4 a2 0 (fun M3 f3 e3 a3 => ?_)⟩
      refine ⟨fun q => absurd q hnn, fun _ => ⟨Or.inr rfl, ?_⟩⟩
      have hp : pPart (kdT t L) (nxT t L) b = (true, nxT t L b, [s]) := by unfold pPart; rw [hk, if_pos (by omega)]
      rw [hp] at h1
      exact h1 rfl M3 _ (a3 (by unfold trV; rw [show s / 32 = 0 by omega]; rfl)) (by unfold nxT; rw [hE])
    refine s_M_isWord_w5 (by omega) hge a1.2.1 e1 (a1.eT ht) (b0n (fun c5 => ?_) (fun c5 => good 1 M1 a1 e1 ((kd_w (i := 5) hbL (by omega)).mp c5) (by omega) (by omega)))
    refine s_M_isWord_w6 (by omega) hge a1.2.1 e1 (a1.eT ht) (b0n (fun c6 => ?_) (fun c6 => good 2 M1 a1 e1 ((kd_w (i := 6) hbL (by omega)).mp c6) (by omega) (by omega)))
    refine s_M_isWord_w7 (by omega) hge a1.2.1 e1 (a1.eT ht) (b0n (fun c7 => ?_) (fun c7 => good 3 M1 a1 e1 ((kd_w (i := 7) hbL (by omega)).mp c7) (by omega) (by omega)))
    refine s_M_isWord_w8 (by omega) hge a1.2.1 e1 (a1.eT ht) (b0n (fun c8 => ?_) (fun c8 => good 4 M1 a1 e1 ((kd_w (i := 8) hbL (by omega)).mp c8) (by omega) (by omega)))
    refine s_M_isWord_w9 (by omega) hge a1.2.1 e1 (a1.eT ht) (b0n (fun c9 => ?_) (fun c9 => good 5 M1 a1 e1 ((kd_w (i := 9) hbL (by omega)).mp c9) (by omega) (by omega)))
    have hno : ∀ i, i < 10 → isW t L b i = false → kdT t L b ≠ wN i := fun i hi hw q => by have := (kd_w hbL hi).mpr q; rw [hw] at this; cases this
    have n5 := hno 5 (by omega) c5
    have n6 := hno 6 (by omega) c6
    have n7 := hno 7 (by omega) c7
    have n8 := hno 8 (by omega) c8
    have n9 := hno 9 (by omega) c9
    have hw0 : kdT t L b ≠ 0 := by
      rw [hkd]
      generalize wd t b (rn (isLe t) L b) = l
      unfold wK; repeat' split
      all_goals omega
    have hw17 : kdT t L b < 17 := by rw [hkd]; exact wK_lt _
    have hbad : ¬ kdT t L b % 32 ≤ 5 := by
      have : wN 5 = 1 ∧ wN 6 = 2 ∧ wN 7 = 3 ∧ wN 8 = 4 ∧ wN 9 = 5 := by decide
      omega
    have hp : pPart (kdT t L) (nxT t L) b = pFail b := by unfold pPart; rw [if_neg hbad]
    rw [hp] at h0
    refine ⟨fun _ => ⟨fun _ => ⟨Or.inl rfl, h0 rfl M1 ⟨a1.1, e1⟩⟩, fun q => absurd (by decide) q⟩, fun q => absurd (by decide) q⟩
  · have hnl : isLe t b = false ∨ ¬ b < L := by
      by_cases hq : b < L
      · left
        cases hw : isLe t b with
        | false => rfl
        | true =>
          exfalso
          have h5 := rn_ge (p := isLe t) (L := L) (i := b + 1) (by omega)
          rw [rn_go hq hw] at cn; omega
      · right; exact hq
    have hkn := kd_num (t := t) hbL hnl
    have hx := hts.2.1 b
    rw [cn] at a1
    refine s_M_readNumber (most := 9999) (b := b) hL4 hL ht a1 (by rw [← hb]; exact rn_idem hM.2.2.1) (by omega) (fun k1 k2 M2 q a2 e2 e3 => ?_) (fun k1 M2 q a2 e2 => ?_)
    · have hp : pPart (kdT t L) (nxT t L) b = (true, nxT t L b, [kdT t L b]) := by unfold pPart; rw [if_pos (by omega)]
      rw [hp] at h1
      have hv : trS (kdT t L b) = 7 := by unfold trS; rw [k1]; rfl
      have hge0 : ¬ nI (kdT t L b / 32) < 0 := by rw [ltI, nI_toI (by omega)]; have : (0 : Int32).toInt = 0 := rfl; omega
      have := s_M_emits (post := fun M1 => (nI (kdT t L b / 32) < 0 → P_M_emitsIf_15 (fun r8 M8 => (r8 = 0 ∨ r8 = 1) ∧ post r8 M8) 0 M1) ∧ (¬ nI (kdT t L b / 32) < 0 → P_M_emitsIf_15 (fun r8 M8 => (r8 = 0 ∨ r8 = 1) ∧ post r8 M8) 1 M1)) (x := kdT t L b) hc4 a2 (nI (kdT t L b / 32)) (fun M3 f3 e4 a3 => ⟨fun q => absurd q hge0, fun _ => ⟨Or.inr rfl, Or.inr rfl, h1 rfl M3 q (a3 rfl) e2⟩⟩)
      rw [hv] at this
      exact this
    · have hbad : ¬ kdT t L b % 32 ≤ 5 := by
        intro h5
        by_cases h6 : kdT t L b % 32 = 0
        · exact k1 ⟨h6, by omega⟩
        · have h7 : kdT t L b ≤ 5 := by omega
          have hlt : b < L := by
            by_cases hq : b < L
            · exact hq
            · have := (hts.2.2.1 b hbL).mpr (by omega); omega
          have hl := hnl.resolve_right (fun h => h hlt)
          unfold kdT at h7 h6
          rw [if_pos hlt, hl] at h7 h6
          simp only [Bool.false_eq_true, if_false] at h7 h6
          split at h7
          · rename_i hd
            rw [hd] at h6
            simp only [if_true] at h6
            split at h7
            · omega
            · rename_i q4
              rw [if_neg q4] at h6
              omega
          · have : 9 ≤ chK (t b) := by unfold chK; repeat' split
                                       all_goals omega
            omega
      have hp : pPart (kdT t L) (nxT t L) b = pFail b := by unfold pPart; rw [if_neg hbad]
      rw [hp] at h0
      have := s_M_emits (post := fun M1 => ((-1 : Int32) < 0 → P_M_emitsIf_15 (fun r8 M8 => (r8 = 0 ∨ r8 = 1) ∧ post r8 M8) 0 M1) ∧ (¬ (-1 : Int32) < 0 → P_M_emitsIf_15 (fun r8 M8 => (r8 = 0 ∨ r8 = 1) ∧ post r8 M8) 1 M1)) (x := 0) hc4 a2 (-1) (fun M3 f3 e4 a3 => ⟨fun _ => ⟨Or.inl rfl, Or.inl rfl, h0 rfl M3 ⟨f3, by rw [e4]; exact e2⟩⟩, fun q => absurd (by decide) q⟩)
      exact this
/-- many of a kind, with a sign between them -/
theorem rd_many {RA SG : (Int32 → Mem → Prop) → Mem → Prop} {Lp : (Int32 → Mem → Prop) → Nat → Mem → Prop} {op : Nat} {item : Nat → PRs} (hL4 : L ≤ 400) (ho : op % 32 ≠ 17) (hov : op < 32) (hg : Good L item) (hS : SgM M0 L t d SG op) (hR : RdM M0 L t d RA item)
    (hst : ∀ post n M, SG (fun r1 M1 => (r1 = 0 → post (1 : Int32) M1) ∧ (¬ r1 = 0 → RA (fun r2 M2 => (¬ r2 = 0 → P_M_emits (fun M3 => Lp post n M3) (trS op) (0 : Int32) M2) ∧ (r2 = 0 → post (0 : Int32) M2)) M1)) M → Lp post (n + 1) M) :
    RdM M0 L t d (fun post M => RA (fun r1 M1 => (¬ r1 = 0 → ∃ j, Lp post j M1) ∧ (r1 = 0 → post (0 : Int32) M1)) M) (pMany (kdT t L) (nxT t L) op item) := by
  intro post M p c0 hM hc4 hcb h1 h0
  have hts := kdT_ts (t := t) hL4
  have hbL : rn (isSp t) L p ≤ L := rn_le hM.2.2.1
  have key : ∀ (n b : Nat) (cc : List Nat), (c0 ++ cc).length ≤ b → b ≤ L → L + 1 ≤ b + n →
      ((pLoop (kdT t L) (nxT t L) op item n b cc).1 = true → ∀ M' q, MR M0 L q d (c0 ++ (pLoop (kdT t L) (nxT t L) op item n b cc).2.2) M' → rn (isSp t) L q = (pLoop (kdT t L) (nxT t L) op item n b cc).2.1 → post 1 M') →
      ((pLoop (kdT t L) (nxT t L) op item n b cc).1 = false → ∀ M', MF M0 (pLoop (kdT t L) (nxT t L) op item n b cc).2.1 M' → post 0 M') → ∃ j, ∀ M1 q, MR M0 L q d (c0 ++ cc) M1 → rn (isSp t) L q = b → Lp post j M1 := by
    intro n
    induction n with
    | zero => intro b cc _ hb hn; exfalso; omega
    | succ n ih =>
      intro b cc hlen hb hn k1 k0
      unfold pLoop at k1 k0
      by_cases hk : kdT t L b = op
      · rw [if_pos hk] at k1 k0
        have hnx := hts.next hb (by rw [hk]; exact ho)
        have hi := hg (nxT t L b) hnx.2.2
        by_cases hok : (item (nxT t L b)).1 = true
        · rw [if_pos hok] at k1 k0
          have hi := hi.1 hok
          obtain ⟨j, hj⟩ := ih _ _ (by simp only [List.length_append, List.length_singleton] at *; omega) hi.2.1 (by omega) k1 k0
          refine ⟨j + 1, fun M1 q a1 hq => hst _ _ _ (hS _ M1 q _ a1 (fun _ M2 q2 a2 e2 e3 => ?_) (fun hne => absurd (by rw [hq]; exact hk) hne))⟩
          rw [hq] at e2 e3
          refine ⟨fun c => absurd c (by decide), fun _ => hR _ M2 q2 _ a2 (by simp only [List.length_append] at *; omega) (by rw [e2]; simp only [List.length_append] at *; omega) (fun _ M3 q3 a3 e4 => ?_) (fun hbad => ?_)⟩
          · rw [e2] at a3 e4
            refine ⟨fun _ => s_M_emits (x := op) (by simp only [List.length_append] at *; omega) a3 0 (fun M4 f4 e5 a4 => ?_), fun c => absurd c (by decide)⟩
            refine hj M4 q3 ?_ e4
            have := a4 (by unfold trV; rw [show op / 32 = 0 by omega]; rfl)
            simpa [List.append_assoc] using this
          · rw [e2, hok] at hbad; cases hbad
        · have hok : (item (nxT t L b)).1 = false := by simpa using hok
          rw [hok] at k1 k0
          refine ⟨1, fun M1 q a1 hq => hst _ _ _ (hS _ M1 q _ a1 (fun _ M2 q2 a2 e2 e3 => ?_) (fun hne => absurd (by rw [hq]; exact hk) hne))⟩
          rw [hq] at e2 e3
          refine ⟨fun c => absurd c (by decide), fun _ => hR _ M2 q2 _ a2 (by simp only [List.length_append] at *; omega) (by rw [e2]; simp only [List.length_append] at *; omega) (fun hgd => ?_) (fun _ M3 f3 => ?_)⟩
          · rw [e2, hok] at hgd; cases hgd
          · rw [e2] at f3
            exact ⟨fun c => absurd (by decide) c, fun _ => k0 rfl M3 f3⟩
      · rw [if_neg hk] at k1 k0
        refine ⟨1, fun M1 q a1 hq => hst _ _ _ (hS _ M1 q _ a1 (fun he => absurd (by rw [← hq]; exact he) hk) (fun _ M2 a2 e2 => ?_))⟩
        rw [hq] at a2
        exact ⟨fun _ => k1 rfl M2 b a2 (by rw [← hq]; exact rn_idem a1.2.2.1), fun c => absurd (by decide) c⟩
  unfold pMany at h1 h0
  have hi := hg _ hbL
  by_cases hok : (item (rn (isSp t) L p)).1 = true
  · rw [if_pos hok] at h1 h0
    have hi := hi.1 hok
    obtain ⟨j, hj⟩ := key 400 _ _ (by simp only [List.length_append]; omega) hi.2.1 (by omega) h1 h0
    refine hR _ M p c0 hM hc4 hcb (fun _ M2 q2 a2 e2 => ⟨fun _ => ⟨j, hj M2 q2 a2 e2⟩, fun c => absurd c (by decide)⟩) (fun hbad => ?_)
    rw [hok] at hbad; cases hbad
  · have hok : (item (rn (isSp t) L p)).1 = false := by simpa using hok
    rw [hok] at h1 h0
    refine hR _ M p c0 hM hc4 hcb (fun hgd => ?_) (fun _ M2 f2 => ⟨fun c => absurd (by decide) c, fun _ => h0 rfl M2 f2⟩)
    rw [hok] at hgd; cases hgd
theorem rd_sum (hL4 : L ≤ 400) (hL : M0 0 21 = nI L) (ht : M0 10 = t) : RdM M0 L t d P_M_readSum (pSum (kdT t L) (nxT t L)) :=
  rd_many (RA := P_M_readPart) (SG := fun post M => P_M_sign post 43 M) (Lp := P_M_readSum_9) (op := 9) hL4 (by decide) (by decide) (good_part (kdT_ts hL4)) (sg_M_sign hL4 hL ht (Or.inr (Or.inr (Or.inl rfl)))) (rd_part hL4 hL ht) (fun post n M h => h)
theorem rd_all {RA : (Int32 → Mem → Prop) → Mem → Prop} {item : Nat → PRs} (hL4 : L ≤ 400) (hL : M0 0 21 = nI L) (ht : M0 10 = t) (hg : Good L item) (hR : RdM M0 L t d RA item) : RdM M0 L t d (P_M_readAllOf RA) (pMany (kdT t L) (nxT t L) 12 item) :=
  rd_many (RA := RA) (SG := P_M_passes_w1) (Lp := P_M_readAllOf_9 RA) (op := 12) hL4 (by decide) (by decide) hg (s_M_passes_w1 hL4 hL ht) hR (fun post n M h => h)
theorem rd_cond {RA : (Int32 → Mem → Prop) → Mem → Prop} {item : Nat → PRs} (hL4 : L ≤ 400) (hL : M0 0 21 = nI L) (ht : M0 10 = t) (hg : Good L item) (hR : RdM M0 L t d RA item) : RdM M0 L t d (P_M_readCond RA) (pMany (kdT t L) (nxT t L) 13 (pMany (kdT t L) (nxT t L) 12 item)) :=
  rd_many (RA := P_M_readAllOf RA) (SG := P_M_passes_w0) (Lp := P_M_readCond_9 RA) (op := 13) hL4 (by decide) (by decide) (good_many (kdT_ts hL4) (by decide) hg) (s_M_passes_w0 hL4 hL ht) (rd_all hL4 hL ht hg hR) (fun post n M h => h)
/-- an element's number behind a word -/
theorem rd_elem {post : Int32 → Mem → Prop} {M : Mem} {p st : Nat} {c : List Nat} {s : Int32} (hL4 : L ≤ 400) (hL : M0 0 21 = nI L) (ht : M0 10 = t) (hM : MR M0 L p d c M) (hc4 : c.length < 400) (hs : (st = 6 ∧ s = 5) ∨ (st = 7 ∧ s = 6))
    (h1 : (pElem (kdT t L) (nxT t L) st (rn (isSp t) L p)).1 = true → ∀ M' q, MR M0 L q d (c ++ (pElem (kdT t L) (nxT t L) st (rn (isSp t) L p)).2.2) M' → rn (isSp t) L q = (pElem (kdT t L) (nxT t L) st (rn (isSp t) L p)).2.1 → post 1 M')
    (h0 : (pElem (kdT t L) (nxT t L) st (rn (isSp t) L p)).1 = false → ∀ M', MF M0 (pElem (kdT t L) (nxT t L) st (rn (isSp t) L p)).2.1 M' → post 0 M') :
    P_M_readNumber (fun r8 M8 => P_M_emitsIf (fun r9 M9 => (r9 = 0 ∨ r9 = 1) ∧ post r9 M9) s r8 M8) (5 : Int32) M := by
  generalize hb : rn (isSp t) L p = b at *
  unfold pElem at h1 h0
  refine s_M_readNumber (most := 5) (b := b) hL4 hL ht hM hb (by omega) (fun k1 k2 M2 q a2 e2 e3 => ?_) (fun k1 M2 q a2 e2 => ?_)
  · rw [if_pos ⟨k1, by omega⟩] at h1
    have hge0 : ¬ nI (kdT t L b / 32) < 0 := by rw [ltI, nI_toI (by omega)]; have : (0 : Int32).toInt = 0 := rfl; omega
    have hv : trS (st + 32 * (kdT t L b / 32)) = s := by
      unfold trS
      rcases hs with ⟨rfl, rfl⟩ | ⟨rfl, rfl⟩
      · rw [show (6 + 32 * (kdT t L b / 32)) % 32 = 6 by omega]; rfl
      · rw [show (7 + 32 * (kdT t L b / 32)) % 32 = 7 by omega]; rfl
    have := s_M_emits (post := fun M1 => (nI (kdT t L b / 32) < 0 → P_M_emitsIf_15 (fun r8 M8 => (r8 = 0 ∨ r8 = 1) ∧ post r8 M8) 0 M1) ∧ (¬ nI (kdT t L b / 32) < 0 → P_M_emitsIf_15 (fun r8 M8 => (r8 = 0 ∨ r8 = 1) ∧ post r8 M8) 1 M1)) (x := st + 32 * (kdT t L b / 32)) hc4 a2 (nI (kdT t L b / 32)) (fun M3 f3 e4 a3 => ⟨fun q => absurd q hge0, fun _ => ⟨Or.inr rfl, Or.inr rfl, h1 rfl M3 q (a3 ?_) e2⟩⟩)
    · rw [hv] at this
      exact this
    · unfold trV
      rcases hs with ⟨rfl, rfl⟩ | ⟨rfl, rfl⟩ <;> (congr 1; omega)
  · rw [if_neg (fun q => k1 ⟨q.1, by omega⟩)] at h0
    have hv : trS st = s := by rcases hs with ⟨rfl, rfl⟩ | ⟨rfl, rfl⟩ <;> rfl
    have := s_M_emits (post := fun M1 => ((-1 : Int32) < 0 → P_M_emitsIf_15 (fun r8 M8 => (r8 = 0 ∨ r8 = 1) ∧ post r8 M8) 0 M1) ∧ (¬ (-1 : Int32) < 0 → P_M_emitsIf_15 (fun r8 M8 => (r8 = 0 ∨ r8 = 1) ∧ post r8 M8) 1 M1)) (x := st) hc4 a2 (-1) (fun M3 f3 e4 a3 => ⟨fun _ => ⟨Or.inl rfl, Or.inl rfl, h0 rfl M3 ⟨f3, by rw [e4]; exact e2⟩⟩, fun q => absurd (by decide) q⟩)
    rw [hv] at this
    exact this
/-- an atom, over readers of what stands one level deeper -/
theorem rd_atomS {RA : (Int32 → Mem → Prop) → Mem → Prop} {can : Bool} {item : Nat → PRs} {any : Nat → PRs} (hL4 : L ≤ 400) (hL : M0 0 21 = nI L) (ht : M0 10 = t) (hd : d ≤ 6) (hcan : can = true ↔ d < 6) (hany : can = true → any = pMany (kdT t L) (nxT t L) 13 (pMany (kdT t L) (nxT t L) 12 item)) (hg : can = true → Good L item) (hR : can = true → RdM M0 L t (d + 1) RA item) : RdM M0 L t d (P_M_readAtom RA) (pAtomS (kdT t L) (nxT t L) can any item) := by
  intro post M p c hM hc4 hcb h1 h0
  have hts := kdT_ts (t := t) hL4
  have hbL : rn (isSp t) L p ≤ L := rn_le hM.2.2.1
  generalize hb : rn (isSp t) L p = b at *
  have hsk : rn (isSp t) L b = b := by rw [← hb]; exact rn_idem hM.2.2.1
  have e6 : ∀ M', MR M0 L b d c M' ∨ (∃ q, MR M0 L q d c M') → (M' 0 23 = 6 ↔ d = 6) := by
    intro M' h
    have : M' 0 23 = nI d := by rcases h with h | ⟨q, h⟩ <;> exact h.2.2.2.1
    rw [this, show (6 : Int32) = nI 6 from rfl, nI_eq (by omega) (by omega)]
  have hlow : kdT t L b = 14 ∨ kdT t L b = 8 → can = false → (pAtomS (kdT t L) (nxT t L) can any item b) = pFail b := by
    intro hk hc
    unfold pAtomS
    rw [hc]
    have hpp : pPart (kdT t L) (nxT t L) b = pFail b := by unfold pPart; rw [if_neg (by omega)]
    rw [if_neg (fun q => by cases q.1), if_neg (fun q => by cases q.1), if_neg (by omega), if_neg (by omega)]
    unfold pCmp pSum pMany
    rw [hpp]; rfl
  refine sg_M_sign hL4 hL ht (Or.inl rfl) _ M p c hM (fun k14 M1 q1 a1 s1 e1 => ?_) (fun k14 M1 a1 e1 => ?_)
  · rw [hb] at k14 s1 e1
    refine ⟨fun q => absurd q (by decide), fun _ => ⟨fun c6 => ?_, fun c6 => ?_⟩⟩
    · have hc : can = true := hcan.mpr (by have h9 : ¬ d = 6 := fun q => c6 ((e6 M1 (Or.inr ⟨q1, a1⟩)).mpr q); omega)
      have hnx := hts.next hbL (by rw [k14]; decide)
      have hat : pAtomS (kdT t L) (nxT t L) can any item b = pClose (kdT t L) (nxT t L) (any (nxT t L b)) := by unfold pAtomS; rw [if_pos ⟨hc, k14⟩]
      rw [hat, hany hc] at h1 h0
      have hgm := good_many hts (op := 13) (by decide) (good_many hts (op := 12) (by decide) (hg hc)) (nxT t L b) hnx.2.2
      intro M2 m2
      rw [a1.2.2.2.1, nI_1] at m2
      subst m2
      refine rd_cond hL4 hL ht (hg hc) (hR hc) _ _ q1 c (a1.deep (d + 1)) hc4 (by rw [s1]; omega) (fun hok M3 q3 a3 s3 => ?_) (fun hok M3 f3 => ?_)
      · rw [s1] at hok a3 s3
        have hgm := hgm.1 hok
        unfold pClose at h1 h0
        rw [if_pos hok] at h1 h0
        refine ⟨fun _ => fun M4 m4 => ?_, fun q => absurd q (by decide)⟩
        have e23 : M3 0 23 - 1 = nI d := by rw [a3.2.2.2.1, ← nI_1, i32_sub_add]
        rw [e23] at m4
        subst m4
        refine sg_M_sign hL4 hL ht (Or.inr (Or.inl rfl)) _ _ q3 _ (a3.deep d) (fun k15 M5 q5 a5 s5 e5 => ?_) (fun k15 M5 a5 e5 => ?_)
        · rw [s3] at k15 s5
          rw [if_pos k15] at h1
          exact ⟨Or.inr rfl, h1 rfl M5 q5 a5 s5⟩
        · rw [s3] at k15 e5
          rw [if_neg k15] at h0
          exact ⟨Or.inl rfl, h0 rfl M5 ⟨a5.1, e5⟩⟩
      · rw [s1] at hok f3
        unfold pClose at h0
        rw [hok] at h0
        exact ⟨fun q => absurd (by decide) q, fun _ => h0 rfl M3 f3⟩
    · have hc : can = false := by
        cases hq : can with
        | false => rfl
        | true => have := hcan.mp hq; have := (e6 M1 (Or.inr ⟨q1, a1⟩)).mp c6; omega
      rw [hlow (Or.inl k14) hc] at h0
      exact h0 rfl M1 ⟨a1.1, e1⟩
  · rw [hb] at k14 a1 e1
    refine ⟨fun _ => ?_, fun q => absurd (by decide) q⟩
    refine s_M_passes_w2 hL4 hL ht _ M1 b c a1 (fun k8 M2 q2 a2 s2 e2 => ?_) (fun k8 M2 a2 e2 => ?_)
    · rw [hsk] at k8 s2 e2
      refine ⟨fun q => absurd q (by decide), fun _ => ⟨fun c6 => ?_, fun c6 => ?_⟩⟩
      · have hc : can = true := hcan.mpr (by have h9 : ¬ d = 6 := fun q => c6 ((e6 M2 (Or.inr ⟨q2, a2⟩)).mpr q); omega)
        have hnx := hts.next hbL (by rw [k8]; decide)
        have hat : pAtomS (kdT t L) (nxT t L) can any item b = pNot (item (nxT t L b)) := by unfold pAtomS; rw [if_neg (fun q => k14 q.2), if_pos ⟨hc, k8⟩]
        rw [hat] at h1 h0
        have hgm := hg hc (nxT t L b) hnx.2.2
        intro M3 m3
        rw [a2.2.2.2.1, nI_1] at m3
        subst m3
        refine hR hc _ _ q2 c (a2.deep (d + 1)) hc4 (by rw [s2]; omega) (fun hok M4 q4 a4 s4 => ?_) (fun hok M4 f4 => ?_)
        · rw [s2] at hok a4 s4
          have hgm := hgm.1 hok
          unfold pNot at h1
          rw [if_pos hok] at h1
          refine ⟨fun _ => fun M5 m5 => ?_, fun q => absurd q (by decide)⟩
          have e23 : M4 0 23 - 1 = nI d := by rw [a4.2.2.2.1, ← nI_1, i32_sub_add]
          rw [e23] at m5
          subst m5
          refine s_M_emits (x := 8) (by simp only [List.length_append]; omega) (a4.deep d) 0 (fun M6 f6 e6 a6 => ?_)
          have a6 := a6 rfl
          rw [List.append_assoc] at a6
          exact h1 rfl M6 q4 a6 s4
        · rw [s2] at hok f4
          unfold pNot at h0
          rw [hok] at h0
          exact ⟨fun q => absurd (by decide) q, fun _ => h0 rfl M4 f4⟩
      · have hc : can = false := by
          cases hq : can with
          | false => rfl
          | true => have := hcan.mp hq; have := (e6 M2 (Or.inr ⟨q2, a2⟩)).mp c6; omega
        rw [hlow (Or.inr k8) hc] at h0
        exact h0 rfl M2 ⟨a2.1, e2⟩
    · rw [hsk] at k8 a2 e2
      have hat : pAtomS (kdT t L) (nxT t L) can any item b = (if kdT t L b = 6 then pElem (kdT t L) (nxT t L) 6 (nxT t L b) else if kdT t L b = 7 then pElem (kdT t L) (nxT t L) 7 (nxT t L b) else pCmp (kdT t L) (nxT t L) b) := by
        unfold pAtomS; rw [if_neg (fun q => k14 q.2), if_neg (fun q => k8 q.2)]
      rw [hat] at h1 h0
      refine ⟨fun _ => ?_, fun q => absurd (by decide) q⟩
      refine s_M_passes_w3 hL4 hL ht _ M2 b c a2 (fun k6 M3 q3 a3 s3 e3 => ?_) (fun k6 M3 a3 e3 => ?_)
      · rw [hsk] at k6 s3
        rw [if_pos k6, ← s3] at h1 h0
        have hnx := hts.next hbL (by rw [k6]; decide)
        exact ⟨fun q => absurd q (by decide), fun _ => rd_elem hL4 hL ht a3 hc4 (Or.inl ⟨rfl, rfl⟩) h1 h0⟩
      · rw [hsk] at k6 a3
        rw [if_neg k6] at h1 h0
        refine ⟨fun _ => ?_, fun q => absurd (by decide) q⟩
        refine s_M_passes_w4 hL4 hL ht _ M3 b c a3 (fun k7 M4 q4 a4 s4 e4 => ?_) (fun k7 M4 a4 e4 => ?_)
        · rw [hsk] at k7 s4
          rw [if_pos k7, ← s4] at h1 h0
          exact ⟨fun q => absurd q (by decide), fun _ => rd_elem hL4 hL ht a4 hc4 (Or.inr ⟨rfl, rfl⟩) h1 h0⟩
        · rw [hsk] at k7 a4
          rw [if_neg k7] at h1 h0
          refine ⟨fun _ => ?_, fun q => absurd (by decide) q⟩
          unfold pCmp at h1 h0
          have hgs := good_sum hts b hbL
          refine rd_sum hL4 hL ht _ M4 b c a4 hc4 (by rw [hsk]; exact hcb) (fun hok M5 q5 a5 s5 => ?_) (fun hok M5 f5 => ?_)
          · rw [hsk] at hok a5 s5
            rw [if_pos hok] at h1 h0
            have hgs := hgs.1 hok
            unfold pCmp1 at h1 h0
            refine ⟨fun _ => ?_, fun q => absurd q (by decide)⟩
            have cmp : ∀ (op b2 : Nat) (x : Int32) (M6 : Mem) (q6 : Nat), MR M0 L q6 d (c ++ (pSum (kdT t L) (nxT t L) b).2.2) M6 → rn (isSp t) L q6 = b2 → b2 ≤ L → (pSum (kdT t L) (nxT t L) b).2.1 < b2 → ((op = 10 ∧ ¬ x = 0) ∨ (op = 11 ∧ x = 0)) →
                ((pCmp2 (kdT t L) (nxT t L) op b2 (pSum (kdT t L) (nxT t L) b).2.2).1 = true → ∀ M' q, MR M0 L q d (c ++ (pCmp2 (kdT t L) (nxT t L) op b2 (pSum (kdT t L) (nxT t L) b).2.2).2.2) M' → rn (isSp t) L q = (pCmp2 (kdT t L) (nxT t L) op b2 (pSum (kdT t L) (nxT t L) b).2.2).2.1 → post 1 M') →
                ((pCmp2 (kdT t L) (nxT t L) op b2 (pSum (kdT t L) (nxT t L) b).2.2).1 = false → ∀ M', MF M0 (pCmp2 (kdT t L) (nxT t L) op b2 (pSum (kdT t L) (nxT t L) b).2.2).2.1 M' → post 0 M') → P_M_readAtom_187 RA post x M6 := by
              intro op b2 x M6 q6 a6 s6 hb2 hlt hop k1 k0
              unfold pCmp2 at k1 k0
              have hg2 := good_sum hts b2 hb2
              refine rd_sum hL4 hL ht _ M6 q6 _ a6 (by simp only [List.length_append]; omega) (by rw [s6]; simp only [List.length_append]; omega) (fun hok2 M7 q7 a7 s7 => ?_) (fun hok2 M7 f7 => ?_)
              · rw [s6] at hok2 a7 s7
                rw [if_pos hok2] at k1
                have hg2 := hg2.1 hok2
                have fin : ∀ s : Int32, s = trS op → op < 32 → P_M_readAtom_208 RA post s M7 := by
                  intro s hs ho
                  unfold P_M_readAtom_208
                  rw [hs]
                  refine s_M_emits (x := op) (by simp only [List.length_append]; omega) a7 0 (fun M8 f8 e8 a8 => ?_)
                  have a8 := a8 (by unfold trV; rw [show op / 32 = 0 by omega]; rfl)
                  refine k1 rfl M8 q7 ?_ s7
                  simpa [List.append_assoc] using a8
                refine ⟨fun _ => ⟨fun hx => ?_, fun hx => ?_⟩, fun q => absurd q (by decide)⟩
                · rcases hop with ⟨_, h⟩ | ⟨rfl, h⟩
                  · exact absurd hx h
                  · exact fin 10 rfl (by omega)
                · rcases hop with ⟨rfl, h⟩ | ⟨_, h⟩
                  · exact fin 9 rfl (by omega)
                  · exact absurd h hx
              · rw [s6] at hok2 f7
                rw [hok2] at k0
                exact ⟨fun q => absurd (by decide) q, fun _ => k0 rfl M7 f7⟩
            have hsl : (pSum (kdT t L) (nxT t L) b).2.1 ≤ L := hgs.2.1
            have hsk5 : rn (isSp t) L (pSum (kdT t L) (nxT t L) b).2.1 = (pSum (kdT t L) (nxT t L) b).2.1 := by rw [← s5]; exact rn_idem a5.2.2.1
            refine sg_M_sign hL4 hL ht (Or.inr (Or.inr (Or.inr (Or.inl rfl)))) _ M5 q5 _ a5 (fun k10 M6 q6 a6 s6 e6 => ?_) (fun k10 M6 a6 e6 => ?_)
            · rw [s5] at k10 s6
              rw [if_pos k10] at h1 h0
              have hnx := hts.next hsl (by rw [k10]; decide)
              exact ⟨fun _ => cmp 10 _ 1 M6 q6 a6 s6 hnx.2.2 hnx.2.1 (Or.inl ⟨rfl, by decide⟩) h1 h0, fun q => absurd q (by decide)⟩
            · rw [s5] at k10 a6
              rw [if_neg k10] at h1 h0
              refine ⟨fun q => absurd (by decide) q, fun _ => ?_⟩
              refine sg_M_sign hL4 hL ht (Or.inr (Or.inr (Or.inr (Or.inr rfl)))) _ M6 _ _ a6 (fun k11 M7 q7 a7 s7 e7 => ?_) (fun k11 M7 a7 e7 => ?_)
              · rw [hsk5] at k11 s7
                rw [if_pos k11] at h1 h0
                have hnx := hts.next hsl (by rw [k11]; decide)
                exact ⟨fun q => absurd q (by decide), fun _ => cmp 11 _ 0 M7 q7 a7 s7 hnx.2.2 hnx.2.1 (Or.inr ⟨rfl, rfl⟩) h1 h0⟩
              · rw [hsk5] at k11 e7
                rw [if_neg k11] at h0
                exact ⟨fun _ => h0 rfl M7 ⟨a7.1, e7⟩, fun q => absurd (by decide) q⟩
          · rw [hsk] at hok f5
            rw [hok] at h0
            exact ⟨fun q => absurd (by decide) q, fun _ => h0 rfl M5 f5⟩
theorem rd_atom (hL4 : L ≤ 400) (hL : M0 0 21 = nI L) (ht : M0 10 = t) : ∀ (n d : Nat), n + d = 6 → RdM M0 L t d (P_M_readAtom_n (n + 2)) (pAtom (kdT t L) (nxT t L) n)
  | 0, d, h => rd_atomS hL4 hL ht (by omega) ⟨fun e => (by cases e), fun e => by omega⟩ (fun e => by cases e) (fun e => by cases e) (fun e => by cases e)
  | n + 1, d, h => rd_atomS hL4 hL ht (by omega) ⟨fun _ => by omega, fun _ => rfl⟩ (fun _ => rfl) (fun _ => good_atom (kdT_ts hL4) n) (fun _ => rd_atom hL4 hL ht n (d + 1) (by omega))
theorem rd_whole {post : Int32 → Mem → Prop} {M : Mem} (hL4 : L ≤ 400) (hL : M0 0 21 = nI L) (ht : M0 10 = t) (hM : MR M0 L 0 0 [] M)
    (h1 : (pWhole (kdT t L) (nxT t L) (rn (isSp t) L 0)).1 = true → ∀ M' q, MR M0 L q 0 (pWhole (kdT t L) (nxT t L) (rn (isSp t) L 0)).2.2 M' → post 1 M')
    (h0 : (pWhole (kdT t L) (nxT t L) (rn (isSp t) L 0)).1 = false → ∀ M', MF M0 (pWhole (kdT t L) (nxT t L) (rn (isSp t) L 0)).2.1 M' → post 0 M') : P_M_readWhole post M := by
  have hts := kdT_ts (t := t) hL4
  have hbL : rn (isSp t) L 0 ≤ L := rn_le (by omega)
  have hga := good_any hts 6 _ hbL
  unfold pWhole at h1 h0
  refine rd_cond hL4 hL ht (good_atom hts 6) (rd_atom hL4 hL ht 6 0 (by omega)) _ M 0 [] hM (by simp) (by simp) (fun hok M2 q2 a2 s2 => ?_) (fun hok M2 f2 => ?_)
  · have hok : (pAny (kdT t L) (nxT t L) 6 (rn (isSp t) L 0)).1 = true := hok
    have a2 : MR M0 L q2 0 (pAny (kdT t L) (nxT t L) 6 (rn (isSp t) L 0)).2.2 M2 := a2
    have s2 : rn (isSp t) L q2 = (pAny (kdT t L) (nxT t L) 6 (rn (isSp t) L 0)).2.1 := s2
    rw [if_pos hok] at h1 h0
    have hga := hga.1 hok
    refine ⟨fun _ => s_M_blanks hL4 hL ht (L - q2) q2 M2 (by have := a2.2.2.1; omega) a2 (fun M3 a3 e3 => ?_), fun q => absurd q (by decide)⟩
    rw [s2] at a3 e3
    rw [a3.2.1, a3.eL hL, nI_eq (by omega) (by omega)]
    have hend := hts.2.2.1 _ hga.2.1
    refine ⟨fun c => ?_, fun c => ?_⟩
    · rw [if_neg (fun q => c (hend.mp q))] at h0
      exact ⟨Or.inl rfl, h0 rfl M3 ⟨a3.1, e3⟩⟩
    · rw [if_pos (hend.mpr c)] at h1
      exact ⟨Or.inr rfl, h1 hok M3 _ a3⟩
  · have hok : (pAny (kdT t L) (nxT t L) 6 (rn (isSp t) L 0)).1 = false := hok
    rw [hok] at h0
    exact ⟨fun q => absurd (by decide) q, fun _ => h0 rfl M2 f2⟩
end REFG
