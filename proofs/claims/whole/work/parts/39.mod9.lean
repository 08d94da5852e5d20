/-! THE REFERENCE: sets; numbers of unknown lines -/
/-- only the tally has changed -/
def FrS (M M' : Mem) : Prop := (∀ c, c ≠ 0 → M' c = M c) ∧ ∀ k, k ≠ 8 → k ≠ 9 → k ≠ 10 → k ≠ 11 → M' 0 k = M 0 k
theorem FrS.refl (M : Mem) : FrS M M := ⟨fun _ _ => rfl, fun _ _ _ _ _ => rfl⟩
theorem FrS.step {M M' : Mem} (h : FrS M M') {k : Nat} (hk : k = 8 ∨ k = 9 ∨ k = 10 ∨ k = 11) (v : Int32) : FrS M (ms M' 0 k v) := by
  refine ⟨fun c hc => by rw [ms_off _ _ _ hc, h.1 c hc], fun j h8 h9 h10 h11 => ?_⟩
  have : j ≠ k := by omega
  simp only [ms, this, if_false, if_true]
  exact h.2 j h8 h9 h10 h11
theorem FrS.same {M M' : Mem} (h : FrS M M') : MSame M M' := ⟨h.1 1 (by omega), h.1 2 (by omega), h.1 10 (by omega), h.2 3 (by omega) (by omega) (by omega) (by omega), h.2 19 (by omega) (by omega) (by omega) (by omega), h.2 24 (by omega) (by omega) (by omega) (by omega)⟩
/-- the tally as it stands in memory -/
def tly (M : Mem) : Int32 × Int32 × Int32 × Int32 := (M 0 8, M 0 9, M 0 10, M 0 11)
theorem s_M_findsSets {post : Mem → Prop} {p : Nat} {M : Mem} (hI : WInv (M 1)) (hp : p < 3) (h : ∀ M', FrS M M' → tly M' = stF (alA (M 1)) (fun s => exB (M 1) (M 5) (M 6) p s 0) (nn (alA (M 1)) + 1) → post M') : P_M_findsSets post (nI p) M := by
  obtain ⟨hn, hn6⟩ := hI.ne
  intro M1 e1 M2 e2 M3 e3 M4 e4
  have f4 : FrS M M4 := by
    subst e1 e2 e3 e4
    exact ((((FrS.refl M).step (k := 8) (by omega) _).step (k := 9) (by omega) _).step (k := 10) (by omega) _).step (k := 11) (by omega) _
  have t4 : tly M4 = (0, -1, 0, 0) := by subst e1 e2 e3 e4; simp [tly, ms]
  clear e1 e2 e3 e4
  have w4 : M4 1 = M 1 := f4.1 1 (by omega)
  refine ⟨vin_nI (n := 7) (by omega) (by omega), fun v5 e5 => ?_⟩
  have e6 : v5 = alF (M 1) 0 := by rw [e5, w4]; rfl
  subst e6
  refine lpN (R := fun j e => P_M_findsSets_34 post j (nI p) (alF (M 1) e) (nI e) M4) (N := nn (M 1 7)) (fun n => ?_) (fun n e he ih => ?_)
  · refine ⟨vin_nI (n := 7) (by omega) (by omega), brSt (by rw [w4]; exact hn) ?_⟩
    have ha := alF_rg hI (nn (M 1 7))
    have hA : alF (M 1) (nn (M 1 7)) = nI (nn (alA (M 1))) := (nn_of ha (by omega)).1
    have hA2 : nn (alA (M 1)) ≤ 63 := by have := (nn_of ha (by omega)).2; have := ha.2; unfold alA; omega
    rw [hA]
    have key : ∃ j, ∀ M', FrS M M' → tly M' = stF (alA (M 1)) (fun s => exB (M 1) (M 5) (M 6) p s 0) 0 → P_M_findsSets_69 post j (nI p) (nI (nn (alA (M 1)))) (nI 0) M' := by
      refine lpN (R := fun j x => ∀ M', FrS M M' → tly M' = stF (alA (M 1)) (fun s => exB (M 1) (M 5) (M 6) p s 0) x → P_M_findsSets_69 post j (nI p) (nI (nn (alA (M 1)))) (nI x) M') (N := nn (alA (M 1)) + 1) (fun n M' hM ht => ?_) (fun n x hx ih M' hM ht => ?_)
      · refine ⟨fun _ => h M' hM ht, fun c => absurd ?_ c⟩
        rw [nI_I, nI_I, I_lt (by omega) (by omega)]; omega
      · have e7 : alA (M 1) = nI (nn (alA (M 1))) := hA
        generalize hf : stF (alA (M 1)) (fun s => exB (M 1) (M 5) (M 6) p s 0) = F at ht ih
        have eF : F (x + 1) = if decide (nI x &&& (alA (M 1) ^^^ (-1)) = 0) && exB (M 1) (M 5) (M 6) p (nI x) 0 then
            ((F x).1 + 1, (if decide ((F x).2.1 < 0) || decide (¬ bcF (F x).2.1 ≤ bcF (nI x)) then nI x else (F x).2.1), (if (F x).1 = 0 then nI x else (F x).2.2.1 &&& nI x), (F x).2.2.2 ||| nI x) else F x := by rw [← hf]; rfl
        have skip : F (x + 1) = F x → P_M_findsSets_162 post (P_M_findsSets_69 post n) (nI p) (nI (nn (alA (M 1)))) (nI x) M' := by
          intro h2
          rw [h2] at ih
          unfold P_M_findsSets_162
          rw [nI_1]; exact ih M' hM ht
        refine ⟨fun c => ?_, fun _ => ⟨fun c => skip ?_, fun c => ?_⟩⟩
        · rw [nI_I, nI_I, I_lt (by omega) (by omega)] at c; omega
        · rw [← e7] at c
          rw [eF, decide_eq_false c, Bool.false_and, if_neg (by decide)]
        · rw [← e7] at c
          have w' : M' 1 = M 1 := hM.1 1 (by omega)
          refine s_M_explainsBy (by rw [w']; exact hI) hp ?_
          rw [w', hM.1 5 (by omega), hM.1 6 (by omega)]
          refine bn0 (fun cx => skip (by rw [eF]; simp [cx])) (fun cx => ?_)
          rw [cx] at eF
          simp only [c, decide_true, Bool.and_self, if_true] at eF
          have t8 : M' 0 8 = (F x).1 := by rw [← ht]; rfl
          have t9 : M' 0 9 = (F x).2.1 := by rw [← ht]; rfl
          have t10 : M' 0 10 = (F x).2.2.1 := by rw [← ht]; rfl
          have t11 : M' 0 11 = (F x).2.2.2 := by rw [← ht]; rfl
          have go : ∀ s1 : Int32, s1 = (if (F x).1 = 0 then nI x else (F x).2.2.1 &&& nI x) → P_M_findsSets_113 post (P_M_findsSets_69 post n) (nI p) (nI (nn (alA (M 1)))) (nI x) s1 M' := by
            intro s1 hs1 N1 en1 N2 en2 N3 en3
            have g3 : FrS M N3 := by subst en1 en2 en3; exact ((hM.step (k := 10) (by omega) _).step (k := 11) (by omega) _).step (k := 8) (by omega) _
            have a8 : N3 0 8 = (F x).1 + 1 := by subst en1 en2 en3; simp [ms, t8]
            have a9 : N3 0 9 = (F x).2.1 := by subst en1 en2 en3; simp [ms, t9]
            have a10 : N3 0 10 = s1 := by subst en1 en2 en3; simp [ms]
            have a11 : N3 0 11 = (F x).2.2.2 ||| nI x := by subst en1 en2 en3; simp [ms, t11]
            clear en1 en2 en3
            have put : (decide ((F x).2.1 < 0) || decide (¬ bcF (F x).2.1 ≤ bcF (nI x))) = true → P_M_findsSets_157 post (P_M_findsSets_69 post n) (nI p) (nI (nn (alA (M 1)))) (nI x) N3 := by
              intro hc N4 en4
              unfold P_M_findsSets_162
              rw [nI_1]
              refine ih N4 (by subst en4; exact g3.step (k := 9) (by omega) _) ?_
              rw [eF, hc, ← hs1]
              subst en4
              simp [tly, ms, a8, a10, a11]
            have keep : (decide ((F x).2.1 < 0) || decide (¬ bcF (F x).2.1 ≤ bcF (nI x))) = false → P_M_findsSets_162 post (P_M_findsSets_69 post n) (nI p) (nI (nn (alA (M 1)))) (nI x) N3 := by
              intro hc
              unfold P_M_findsSets_162
              rw [nI_1]
              refine ih N3 g3 ?_
              rw [eF, hc, ← hs1]
              simp [tly, a8, a9, a10, a11]
            rw [a9]
            refine ⟨fun c3 => put (by simp [c3]), fun c3 => s_bitCount ?_⟩
            rw [a9]
            refine s_bitCount ⟨fun c4 => keep (by simp [c3, c4]), fun c4 => put (by simp [c4])⟩
          rw [t8, t10]
          refine ⟨fun c3 => go _ (by rw [if_neg c3]), fun c3 => go _ (by rw [if_pos c3])⟩
    obtain ⟨j, hj⟩ := key
    exact ⟨j, hj M4 f4 t4⟩
  · have he6 : e < 6 := by omega
    refine ⟨vin_nI (n := 7) (by omega) (by omega), brGo (by rw [w4]; exact hn) (by omega) he (s_M_isAir he6 ?_)⟩
    rw [w4]
    refine b0n (fun c => ?_) (fun c x2 e2 => ?_)
    · have e1 : alF (M 1) (e + 1) = alF (M 1) e := by simp [alF, c]
      unfold P_M_findsSets_61
      rw [nI_1, ← e1]; exact ih
    · have e1 : alF (M 1) (e + 1) = x2 := by simp only [alF, c, if_true]; exact e2.symm
      unfold P_M_findsSets_61
      rw [nI_1, ← e1]; exact ih
def stW (t : Int32 × Int32 × Int32 × Int32) (what : Int32) : Int32 := if what = 0 then t.1 else if what = 1 then t.2.1 else if what = 2 then t.2.2.1 else t.2.2.2
/-- the tally of plate p -/
def stA (w lo hi : Nat → Int32) (p : Nat) : Int32 × Int32 × Int32 × Int32 := stF (alA w) (fun s => exB w lo hi p s 0) (nn (alA w) + 1)
theorem s_M_sets {post : Int32 → Mem → Prop} {p what : Int32} {M : Mem} (hI : WInv (M 1)) (h : Qs post M (fun lo hi => qpw (M 1) p (inb what 0 3) (stW (stA (M 1) lo hi (nn p)) what))) : P_M_sets post p what M := by
  refine th0 (s_qpw hI h (X := P_M_sets_35 post p what) (fun b M' hb => hb) (fun hp hp3 hw M' h1 hS hpost h0 => ?_))
  rw [hp]
  refine s_M_findsSets (by rw [h1]; exact hI) hp3 (fun M2 hM2 ht => ?_)
  have hpost := hpost M2 hM2.same (by rw [hM2.2 0 (by omega) (by omega) (by omega) (by omega)]; exact h0)
  rw [h1] at ht
  have ht : tly M2 = stA (M 1) (M' 5) (M' 6) (nn p) := ht
  rw [← ht] at hpost
  refine ⟨fun c => ⟨fun c2 => ⟨fun c3 => ?_, fun c3 => ?_⟩, fun c2 => ?_⟩, fun c => ?_⟩
  · simp only [stW, c, c2, c3, if_false] at hpost; exact hpost
  · simp only [stW, c, c2, if_false] at hpost; rw [if_pos c3] at hpost; exact hpost
  · simp only [stW, c, if_false] at hpost; rw [if_pos c2] at hpost; exact hpost
  · rw [show stW (tly M2) what = M2 0 8 by simp [stW, c, tly]] at hpost; exact hpost
/-- the numbers of unknown lines: those left that have a span -/
def mdZ (lo hi : Nat → Int32) (r : Nat) : Int := (lo r + hi r).toInt / 2
def gaL (lo hi : Nat → Int32) (left : Int32) : Nat → List Int32
  | 0 => []
  | r + 1 => if decide ((gaL lo hi left r).length < 10) && tb left r && spB lo hi r && decide (1 ≤ mdZ lo hi r) then gaL lo hi left r ++ [(10000000 : Int32) / I (mdZ lo hi r)] else gaL lo hi left r
theorem gaL_len (lo hi : Nat → Int32) (left : Int32) : ∀ r, (gaL lo hi left r).length ≤ 10
  | 0 => by simp [gaL]
  | r + 1 => by
    have h := gaL_len lo hi left r
    simp only [gaL]
    split
    · rename_i hc
      simp only [Bool.and_eq_true, decide_eq_true_eq] at hc
      simp only [List.length_append, List.length_cons, List.length_nil]; omega
    · exact h
theorem gaL_full {lo hi : Nat → Int32} {left : Int32} {r : Nat} (h : (gaL lo hi left r).length = 10) : ∀ n, r ≤ n → gaL lo hi left n = gaL lo hi left r
  | 0, hn => by rw [show r = 0 by omega]
  | n + 1, hn => by
    by_cases e : r = n + 1
    · rw [e]
    · have h1 := gaL_full h n (by omega)
      simp only [gaL]
      rw [h1, if_neg]
      · simp [h]
theorem tb_cases (x : Int32) (e : Nat) : (x >>> (nI e &&& 31)) &&& 1 = 0 ∨ (x >>> (nI e &&& 31)) &&& 1 = 1 := by
  generalize x >>> (nI e &&& 31) = y
  have h1 : (y &&& 1) = 1 ∨ (y &&& 1) = 0 := by
    have h := and_bd (x := 1) (y := y) (b := 1) ⟨by decide, by decide⟩
    have e1 : y &&& 1 = 1 &&& y := Int32.and_comm y 1
    rw [e1]
    have h1 := h.1
    have h2 := h.2
    have e0 : (0 : Int32).toInt = 0 := rfl
    have e1 : (1 : Int32).toInt = 1 := rfl
    rw [eqI, eqI]
    omega
  exact h1.symm
theorem tb_0 {x : Int32} {e : Nat} : (x >>> (nI e &&& 31)) &&& 1 = 0 ↔ tb x e = false := by
  have h := tb_cases x e
  simp only [tb, decide_eq_false_iff_not]
  constructor
  · intro h1 h2; rw [h1] at h2; exact absurd h2 (by decide)
  · intro h1; exact h.resolve_right h1
/-- the numbers stand in memory -/
def NuOK (M : Mem) (L : List Int32) : Prop := M 0 14 = nI L.length ∧ ∀ k x, L[k]? = some x → M 7 k = x
def FrN (M M' : Mem) : Prop := (∀ c, c ≠ 0 → c ≠ 7 → M' c = M c) ∧ ∀ k, k ≠ 14 → M' 0 k = M 0 k
theorem s_M_gathers {post : Mem → Prop} {p set : Int32} {M : Mem} (hI : WInv (M 1)) (h : ∀ M', FrN M M' → NuOK M' (gaL (M 5) (M 6) (lfA (M 1) (M 5) (M 6) p set 0) (nn (M 1 9))) → post M') : P_M_gathers post p set M := by
  obtain ⟨hn, hn24⟩ := hI.nr
  intro M1 e1
  have w1 : M1 1 = M 1 := by rw [e1, ms_off _ _ _ (by omega)]
  refine s_M_leftOf (by rw [w1]; exact hI) ?_
  rw [w1, show M1 5 = M 5 by rw [e1, ms_off _ _ _ (by omega)], show M1 6 = M 6 by rw [e1, ms_off _ _ _ (by omega)]]
  generalize lfA (M 1) (M 5) (M 6) p set 0 = left at h ⊢
  have key : ∃ j, ∀ M', FrN M M' → NuOK M' (gaL (M 5) (M 6) left 0) → P_M_gathers_16 post j left (nI 0) M' := by
    refine lpN (R := fun j r => ∀ M', FrN M M' → NuOK M' (gaL (M 5) (M 6) left r) → P_M_gathers_16 post j left (nI r) M') (N := nn (M 1 9)) (fun n M' hM hL => ?_) (fun n r hr ih M' hM hL => ?_)
    · exact s_M_readings (brSt (by rw [hM.1 1 (by omega) (by omega)]; exact hn) (h M' hM hL))
    · have hr24 : r < 24 := by omega
      have w' : M' 1 = M 1 := hM.1 1 (by omega) (by omega)
      have hlen := gaL_len (M 5) (M 6) left r
      have eL : gaL (M 5) (M 6) left (r + 1) = if decide ((gaL (M 5) (M 6) left r).length < 10) && tb left r && spB (M 5) (M 6) r && decide (1 ≤ mdZ (M 5) (M 6) r) then gaL (M 5) (M 6) left r ++ [(10000000 : Int32) / I (mdZ (M 5) (M 6) r)] else gaL (M 5) (M 6) left r := rfl
      have skip : gaL (M 5) (M 6) left (r + 1) = gaL (M 5) (M 6) left r → P_M_gathers_109 post (P_M_gathers_16 post n) left (nI r) M' := by
        intro h2
        unfold P_M_gathers_109
        rw [nI_1]
        exact ih M' hM (by rw [h2]; exact hL)
      refine s_M_readings (brGo (by rw [w']; exact hn) (by omega) hr ?_)
      rw [hL.1, show (10 : Int32) = nI 10 from rfl, nI_le_iff (by omega) (by omega)]
      refine ⟨fun c => ?_, fun c => ⟨fun c2 => skip ?_, fun c2 => s_M_hasSpan hr24 ?_⟩⟩
      · refine h M' hM ?_
        rw [gaL_full (r := r) (by omega) (nn (M 1 9)) (by omega)]; exact hL
      · rw [eL, if_neg]; simp [tb_0.mp c2]
      · have c2 : tb left r = true := by
          cases ht : tb left r with
          | true => rfl
          | false => exact absurd (tb_0.mpr ht) c2
        rw [hM.1 5 (by omega) (by omega), hM.1 6 (by omega) (by omega)]
        refine bn0 (fun c3 => skip ?_) (fun c3 => ⟨vin_nI hr24 (by omega), vin_nI hr24 (by omega), ?_⟩)
        · rw [eL, if_neg]; simp [c3]
        rw [nI_clamp (by omega)]
        refine s_floorDiv (by decide) ?_
        have hmd : (M 5 r + M 6 r).toInt / (2 : Int32).toInt = mdZ (M 5) (M 6) r := rfl
        rw [hmd]
        have hb : -2147483648 ≤ mdZ (M 5) (M 6) r ∧ mdZ (M 5) (M 6) r < 2147483648 := by
          have := rngI (M 5 r + M 6 r)
          unfold mdZ; omega
        rw [I_1, I_le (by omega) (by omega)]
        refine ⟨fun c4 => ⟨?_, ?_⟩, fun c4 => skip ?_⟩
        · rw [I_0, I_eq (by omega) (by omega)]; omega
        · rw [hL.1]
          refine ⟨vin_nI (by omega) (by omega), fun M4 e4 M5 e5 => ?_⟩
          rw [nI_clamp (by omega)] at e4
          have eL2 : gaL (M 5) (M 6) left (r + 1) = gaL (M 5) (M 6) left r ++ [(10000000 : Int32) / I (mdZ (M 5) (M 6) r)] := by
            rw [eL, if_pos]; simp [c2, c3, c4]; omega
          unfold P_M_gathers_109
          rw [nI_1]
          refine ih M5 ⟨fun c h0 h7 => ?_, fun k hk => ?_⟩ ?_
          · rw [e5, ms_off _ _ _ h0, e4, ms_off _ _ _ h7]; exact hM.1 c h0 h7
          · rw [e5, e4]
            simp only [ms, hk, if_false]
            exact hM.2 k hk
          · rw [eL2]
            refine ⟨?_, fun k x hx => ?_⟩
            · rw [e5, e4]
              simp only [ms, if_true]
              rw [show (M' 0 14) = nI (gaL (M 5) (M 6) left r).length from hL.1]
              simp only [List.length_append, List.length_cons, List.length_nil]
              exact nI_1 _
            · rw [e5, ms_off _ _ _ (by omega), e4, ms_row]
              rw [List.getElem?_append] at hx
              split at hx
              · rename_i hk
                have := hL.2 k x hx
                simp only [upd]
                rw [if_neg (by omega)]; exact this
              · rename_i hk
                have hk2 : k = (gaL (M 5) (M 6) left r).length := by
                  have := (List.getElem?_eq_some_iff.mp hx).1
                  simp only [List.length_cons, List.length_nil] at this
                  omega
                subst hk2
                simp only [Nat.sub_self, List.getElem?_cons_zero, Option.some.injEq] at hx
                simp [upd, hx]
        · rw [eL, if_neg]; simp [c4]
  obtain ⟨j, hj⟩ := key
  exact ⟨j, hj M1 ⟨fun c h0 h7 => by rw [e1, ms_off _ _ _ h0], fun k hk => by rw [e1]; simp [ms, hk]⟩ ⟨by rw [e1]; simp [ms, gaL, nI_0], fun k x hx => by simp [gaL] at hx⟩⟩
