/-! THE CLASS: holds -/
/-- the steps of a text are small numbers -/
def BdP (item : Nat → PRs) : Prop := ∀ b x, x ∈ (item b).2.2 → x < 400000
section BDP
variable {L : Nat} {kd nx : Nat → Nat}
theorem bd_fail {b x : Nat} (h : x ∈ (pFail b).2.2) : x < 400000 := by cases h
theorem bd_part (h : TS L kd nx) : BdP (pPart kd nx) := by
  intro b x hx
  unfold pPart at hx
  split at hx
  · have h1 := h.2.1 b
    have hx : x = kd b := by simpa using hx
    omega
  · exact bd_fail hx
theorem bd_loop {op : Nat} {item : Nat → PRs} (ho : op < 32) (hi : BdP item) : ∀ (n b : Nat) (c : List Nat), (∀ x, x ∈ c → x < 400000) → ∀ x, x ∈ (pLoop kd nx op item n b c).2.2 → x < 400000
  | 0, b, c, hc, x, hx => hc x hx
  | n + 1, b, c, hc, x, hx => by
    unfold pLoop at hx
    split at hx
    · split at hx
      · refine bd_loop ho hi n _ _ (fun y hy => ?_) x hx
        simp only [List.mem_append, List.mem_singleton] at hy
        rcases hy with (hy | hy) | hy
        · exact hc y hy
        · exact hi _ y hy
        · omega
      · exact bd_fail hx
    · exact hc x hx
theorem bd_many {op : Nat} {item : Nat → PRs} (ho : op < 32) (hi : BdP item) : BdP (pMany kd nx op item) := by
  intro b x hx
  unfold pMany at hx
  split at hx
  · exact bd_loop ho hi 400 _ _ (fun y hy => hi b y hy) x hx
  · exact bd_fail hx
theorem bd_sum (h : TS L kd nx) : BdP (pSum kd nx) := bd_many (by omega) (bd_part h)
theorem bd_elem {st : Nat} (hs : st < 32) : BdP (pElem kd nx st) := by
  intro b x hx
  unfold pElem at hx
  split at hx
  · rename_i h1
    have hx : x = st + 32 * (kd b / 32) := by simpa using hx
    omega
  · exact bd_fail hx
theorem bd_cmp (h : TS L kd nx) : BdP (pCmp kd nx) := by
  intro b x hx
  unfold pCmp at hx
  split at hx
  · unfold pCmp1 at hx
    have c2 : ∀ op, op < 32 → ∀ b2, ∀ x, x ∈ (pCmp2 kd nx op b2 (pSum kd nx b).2.2).2.2 → x < 400000 := by
      intro op ho b2 x hx
      unfold pCmp2 at hx
      split at hx
      · simp only [List.mem_append, List.mem_singleton] at hx
        rcases hx with (hy | hy) | hy
        · exact bd_sum h b x hy
        · exact bd_sum h b2 x hy
        · omega
      · exact bd_fail hx
    split at hx
    · exact c2 10 (by omega) _ x hx
    · split at hx
      · exact c2 11 (by omega) _ x hx
      · exact bd_fail hx
  · exact bd_fail hx
theorem bd_atomS (h : TS L kd nx) {can : Bool} {any atom : Nat → PRs} (h1 : can = true → BdP any ∧ BdP atom) : BdP (pAtomS kd nx can any atom) := by
  intro b x hx
  unfold pAtomS at hx
  split at hx
  · rename_i e1
    unfold pClose at hx
    split at hx
    · split at hx
      · exact (h1 e1.1).1 _ x hx
      · exact bd_fail hx
    · exact bd_fail hx
  · split at hx
    · rename_i e1
      unfold pNot at hx
      split at hx
      · simp only [List.mem_append, List.mem_singleton] at hx
        rcases hx with hy | hy
        · exact (h1 e1.1).2 _ x hy
        · omega
      · exact bd_fail hx
    · split at hx
      · exact bd_elem (by omega) _ x hx
      · split at hx
        · exact bd_elem (by omega) _ x hx
        · exact bd_cmp h b x hx
theorem bd_atom (h : TS L kd nx) : ∀ n, BdP (pAtom kd nx n)
  | 0 => bd_atomS h (fun e => by cases e)
  | n + 1 => bd_atomS h (fun _ => ⟨bd_many (by omega) (bd_many (by omega) (bd_atom h n)), bd_atom h n⟩)
theorem bd_whole (h : TS L kd nx) : BdP (pWhole kd nx) := by
  intro b x hx
  unfold pWhole at hx
  have ha : BdP (pAny kd nx 6) := bd_many (by omega) (bd_many (by omega) (bd_atom h 6))
  split at hx
  · split at hx
    · exact ha _ x hx
    · exact bd_fail hx
  · exact bd_fail hx
end BDP
/-- a claim of the class: its steps stand behind it -/
def CkC (ext : List CD) (M : Mem) (r : Nat → Int32) (w : Nat → Int32) (i : Nat) (cd : List Nat) : Prop := ∃ kc, 89 ≤ kc ∧ kc < 1000000 ∧ r i = nI kc ∧ (layC ++ ext)[kc]? = some (4, 1, [some (kc + 1)]) ∧ (layC ++ ext)[kc + 1]? = some (0, cd.length, []) ∧ (∀ j x, cd[j]? = some x → M (kc + 1) j = nI x) ∧ ClW w i cd ∧ cd.length ≤ 400 ∧ tyR cd [] = some [true] ∧ ∀ x, x ∈ cd → x < 400000
theorem stF_2 {all : Int32} {ex : Int32 → Bool} : ∀ n, (stF all ex n).2.1 = -1 ∨ ∃ x, x < n ∧ (stF all ex n).2.1 = nI x
  | 0 => Or.inl rfl
  | n + 1 => by
    have ih := stF_2 (all := all) (ex := ex) n
    have ih' : (stF all ex n).2.1 = -1 ∨ ∃ x, x < n + 1 ∧ (stF all ex n).2.1 = nI x := ih.imp id (fun ⟨x, h1, h2⟩ => ⟨x, by omega, h2⟩)
    unfold stF
    split
    · simp only []
      split
      · exact Or.inr ⟨n, by omega, rfl⟩
      · exact ih'
    · exact ih'
section HOLDS
variable {w lo hi : Nat → Int32} {M : Mem}
theorem s_C_found {post : Int32 → Mem → Prop} {p c : Nat} (hI : WInv w) (hc : c % 32 < 8) (hc2 : c < 400000) (h2 : (tlC M).2.1 = -1 ∨ 0 ≤ (tlC M).2.1.toInt) (h11 : M 69 11 = bitF (fun r => decide (w (191 + 5 * r) = nI p)) (nn (w 9))) (h12 : M 69 12 = bitF (fun r => decide (w (191 + 5 * r) = nI p) && ghB w r) (nn (w 9))) (h63 : M 63 8 = I (toA w 0)) (h : post (askA w (tlC M) p c) M) : P_Claim_found post (nI (c % 32)) (nI (c / 32)) M := by
  obtain ⟨hn, hn24⟩ := hI.nr
  have e1 : (-1 : Int32).toInt = -1 := rfl
  unfold askA at h
  have hk : c % 32 = 0 ∨ c % 32 = 1 ∨ c % 32 = 2 ∨ c % 32 = 3 ∨ c % 32 = 4 ∨ c % 32 = 5 ∨ c % 32 = 6 ∨ c % 32 = 7 := by omega
  rcases hk with k | k | k | k | k | k | k | k
  all_goals rw [k] at h ⊢
  · exact ⟨fun q => absurd q (by decide), fun _ => ⟨fun q => absurd q (by decide), fun _ => ⟨fun q => absurd q (by decide), fun _ => ⟨fun q => absurd q (by decide), fun _ => ⟨fun q => absurd q (by decide), fun _ => ⟨fun q => absurd q (by decide), fun _ => ⟨fun q => absurd q (by decide), fun _ => h⟩⟩⟩⟩⟩⟩⟩
  · exact ⟨fun _ => h, fun q => absurd rfl q⟩
  · refine ⟨fun q => absurd q (by decide), fun _ => ⟨fun _ => ⟨fun q => s_bitCount ?_, fun q => ?_⟩, fun q => absurd rfl q⟩⟩
    · have q : ¬ (tlC M).2.1 = -1 := q
      have h3 := h2.resolve_left q
      have h4 : (0 : Int32) ≤ (tlC M).2.1 := by rw [leI]; exact h3
      rw [if_neg (by decide), if_neg (by decide), if_pos rfl, if_pos h4] at h
      exact h
    · have q : (tlC M).2.1 = -1 := q
      rw [if_neg (by decide), if_neg (by decide), if_pos rfl, q] at h
      exact h
  · refine ⟨fun q => absurd q (by decide), fun _ => ⟨fun q => absurd q (by decide), fun _ => ⟨fun _ => s_bitCount ?_, fun q => absurd rfl q⟩⟩⟩
    rw [h11, bcF_bitF (by omega)]; exact h
  · refine ⟨fun q => absurd q (by decide), fun _ => ⟨fun q => absurd q (by decide), fun _ => ⟨fun q => absurd q (by decide), fun _ => ⟨fun _ => s_bitCount ?_, fun q => absurd rfl q⟩⟩⟩⟩
    rw [h12, bcF_bitF (by omega)]; exact h
  · refine ⟨fun q => absurd q (by decide), fun _ => ⟨fun q => absurd q (by decide), fun _ => ⟨fun q => absurd q (by decide), fun _ => ⟨fun q => absurd q (by decide), fun _ => ⟨fun _ => s_min ?_, fun q => absurd rfl q⟩⟩⟩⟩⟩
    have e : jmin (M 63 8) 9999 = jmin 9999 (I (toA w 0)) := by rw [h63, eqI, jminI, jminI]; omega
    rw [if_neg (by decide), if_neg (by decide), if_neg (by decide), if_neg (by decide), if_neg (by decide), if_pos rfl] at h
    rw [e]; exact h
  · exact ⟨fun q => absurd q (by decide), fun _ => ⟨fun q => absurd q (by decide), fun _ => ⟨fun q => absurd q (by decide), fun _ => ⟨fun q => absurd q (by decide), fun _ => ⟨fun q => absurd q (by decide), fun _ => ⟨fun _ => h, fun q => absurd rfl q⟩⟩⟩⟩⟩⟩
  · exact ⟨fun q => absurd q (by decide), fun _ => ⟨fun q => absurd q (by decide), fun _ => ⟨fun q => absurd q (by decide), fun _ => ⟨fun q => absurd q (by decide), fun _ => ⟨fun q => absurd q (by decide), fun _ => ⟨fun q => absurd q (by decide), fun _ => ⟨fun _ => h, fun q => absurd rfl q⟩⟩⟩⟩⟩⟩⟩
theorem s_C_joined {post : Int32 → Mem → Prop} {k : Nat} {x y : Int32} (hk : 9 ≤ k ∧ k < 14) (h : post (jn k x y) M) : P_Claim_joined post (nI k) x y M := by
  unfold jn at h
  rcases (by omega : k = 9 ∨ k = 10 ∨ k = 11 ∨ k = 12 ∨ k = 13) with rfl | rfl | rfl | rfl | rfl
  · exact ⟨fun _ => h, fun q => absurd rfl q⟩
  · refine ⟨fun q => absurd q (by decide), fun _ => ⟨fun _ => ⟨fun q => ?_, fun q => ?_⟩, fun q => absurd rfl q⟩⟩
    · rw [if_neg (by decide), if_pos rfl, decide_eq_false (by rw [ltI]; rw [leI] at q; omega)] at h; exact h
    · rw [if_neg (by decide), if_pos rfl, decide_eq_true (by rw [ltI]; rw [leI] at q; omega)] at h; exact h
  · refine ⟨fun q => absurd q (by decide), fun _ => ⟨fun q => absurd q (by decide), fun _ => ⟨fun _ => ⟨fun q => ?_, fun q => ?_⟩, fun q => absurd rfl q⟩⟩⟩
    · rw [if_neg (by decide), if_neg (by decide), if_pos rfl, decide_eq_false (by rw [ltI]; rw [leI] at q; omega)] at h; exact h
    · rw [if_neg (by decide), if_neg (by decide), if_pos rfl, decide_eq_true (by rw [ltI]; rw [leI] at q; omega)] at h; exact h
  · exact ⟨fun q => absurd q (by decide), fun _ => ⟨fun q => absurd q (by decide), fun _ => ⟨fun q => absurd q (by decide), fun _ => ⟨fun _ => h, fun q => absurd rfl q⟩⟩⟩⟩
  · exact ⟨fun q => absurd q (by decide), fun _ => ⟨fun q => absurd q (by decide), fun _ => ⟨fun q => absurd q (by decide), fun _ => ⟨fun q => absurd q (by decide), fun _ => h⟩⟩⟩⟩
theorem s_C_isTrue {post : Int32 → Mem → Prop} {kc p : Nat} {cd : List Nat} (hI : WInv w) (hkc : 89 ≤ kc) (hcl : ∀ j x, cd[j]? = some x → M (kc + 1) j = nI x) (hlen : cd.length ≤ 400) (hty : tyR cd [] = some [true]) (hbd : ∀ x, x ∈ cd → x < 400000)
    (h2 : (tlC M).2.1 = -1 ∨ 0 ≤ (tlC M).2.1.toInt) (h11 : M 69 11 = bitF (fun r => decide (w (191 + 5 * r) = nI p)) (nn (w 9))) (h12 : M 69 12 = bitF (fun r => decide (w (191 + 5 * r) = nI p) && ghB w r) (nn (w 9))) (h63 : M 63 8 = I (toA w 0))
    (hpost : ∀ M', (∀ c, c ≠ 77 → M' c = M c) → post (bi (hoB (askA w (tlC M) p) cd)) M') : P_Claim_isTrue kc cd.length post M := by
  have hask : ∀ c, (c % 32 = 6 ∨ c % 32 = 7) → askA w (tlC M) p c = 0 ∨ askA w (tlC M) p c = 1 := fun c hc => askA_01 hc
  have hfound : ∀ (c : Nat) (X : Int32 → Mem → Prop) (M3 : Mem), c % 32 < 8 → c < 400000 → (∀ k, k ≠ 77 → M3 k = M k) → X (askA w (tlC M) p c) M3 → P_Claim_found X (nI (c % 32)) (nI (c / 32)) M3 := by
    intro c X M3 hc hc2 h3 hX
    have et : tlC M3 = tlC M := by unfold tlC; rw [h3 69 (by omega)]
    exact s_C_found hI hc hc2 (by rw [et]; exact h2) (by rw [h3 69 (by omega)]; exact h11) (by rw [h3 69 (by omega)]; exact h12) (by rw [h3 63 (by omega)]; exact h63) (by rw [et]; exact hX)
  unfold hoB at hpost
  generalize askA w (tlC M) p = ask at *
  generalize hfin : evR ask cd [] = fin at hpost
  have eln : Int32.ofNat cd.length = nI cd.length := rfl
  have key : ∃ j, ∀ M3 st ty, (∀ k, k ≠ 77 → M3 k = M k) → VT st ty → tyR (cd.drop 0) ty = some [true] → evR ask (cd.drop 0) st = fin → PileOK (M3 77) st → st.length ≤ 32 → P_Claim_isTrue_10 kc cd.length post j (nI st.length) (nI 0) M3 := by
    refine lpN (R := fun j i => ∀ M3 st ty, (∀ k, k ≠ 77 → M3 k = M k) → VT st ty → tyR (cd.drop i) ty = some [true] → evR ask (cd.drop i) st = fin → PileOK (M3 77) st → st.length ≤ 32 → P_Claim_isTrue_10 kc cd.length post j (nI st.length) (nI i) M3) (N := cd.length) (fun j M3 st ty h3 hv hty hev hpi h32 => brSt eln ?_) (fun j i hi ih M3 st ty h3 hv hty hev hpi h32 => brGo eln (by omega) hi ⟨vin_nI hi (by omega), fun x5 e5 => ?_⟩)
    · rw [List.drop_length] at hty hev
      have hty : ty = [true] := Option.some.inj hty
      have hev : st = fin := hev
      subst hty
      match st, hv, hev, hpi with
      | [v], hv, hev, hpi =>
        refine ⟨fun q => absurd q (by show ¬ nI 1 ≤ 0; decide), fun _ => ⟨vin_nI (n := 0) (by omega) (by omega), ?_⟩⟩
        have e0 : M3 77 (0 : Int32).toNatClampNeg = v := hpi.top
        rw [e0]
        have hpost := hpost M3 h3
        rw [← hev] at hpost
        have hh : ([v] : List Int32).headD 0 = v := rfl
        rw [hh] at hpost
        refine ⟨fun q => ?_, fun q => ?_⟩
        · rw [decide_eq_false q] at hpost; exact ⟨Or.inl rfl, hpost⟩
        · rw [decide_eq_true q] at hpost; exact ⟨Or.inr rfl, hpost⟩
      | [], hv, _, _ => exact hv.elim
      | _ :: _ :: _, hv, _, _ => exact hv.2.elim
    · have hdr : cd.drop i = cd[i] :: cd.drop (i + 1) := List.drop_eq_getElem_cons hi
      have hx : cd[i]? = some cd[i] := List.getElem?_eq_getElem hi
      have hx1 := hcl i _ hx
      have hxb := hbd cd[i] (List.getElem_mem hi)
      rw [hdr] at hty hev
      rw [show (nI i).toNatClampNeg = i from nI_clamp (by omega), h3 (kc + 1) (by omega), hx1] at e5 ⊢
      generalize cd[i] = c at *
      have e6 : irm (nI c) 32 = nI (c % 32) := by
        rw [show (32 : Int32) = nI 32 from rfl, nI_I, nI_I, I_rem (by omega) (by omega), nI_I]; rfl
      rw [e6] at e5
      subst e5
      simp only [tyR, evR] at hty hev
      cases hts : tyS c ty with
      | none => rw [hts] at hty; cases hty
      | some ty2 =>
        rw [hts] at hty
        simp only [] at hty
        obtain ⟨hv2, hsh⟩ := vt_step (hask c) hv hts
        rw [lit_nI 8, nI_le_iff (by omega) (by omega)]
        refine ⟨fun h8 => ?_, fun h8 => ?_⟩
        · rcases hsh with ⟨q8, _⟩ | ⟨q8, y, r, rfl, hst⟩ | ⟨q9, q14, y, x, q, rfl, hst, h01⟩
          · omega
          · rw [q8]
            simp only [List.length_cons] at h32
            refine ⟨fun z => absurd rfl z, fun _ => ⟨fun z => ?_, fun _ => ?_⟩⟩
            · rw [lit_nI 1, List.length_cons, nI_I, nI_I, I_lt (by omega) (by omega)] at z; omega
            have el : nI (y :: r).length - 1 = nI r.length := by rw [List.length_cons, ← nI_1, i32_sub_add]
            rw [el, nI_clamp (by omega)]
            refine ⟨vin_nI (by omega) (by omega), vin_nI (by omega) (by omega), fun M6 m6 => ?_⟩
            rw [hpi.top] at m6
            unfold P_Claim_isTrue_130
            rw [nI_1]
            rw [hst] at hv2 hev
            refine ih M6 ((1 - y) :: r) ty2 (fun k k77 => by rw [m6, ms_off _ _ _ k77, h3 k k77]) hv2 hty hev ?_ (by simp only [List.length_cons]; omega)
            rw [m6, ms_row]
            exact hpi.sub.push _
          · simp only [List.length_cons] at h32
            have hne : ¬ nI (c % 32) = 8 := by rw [lit_nI 8, nI_eq (by omega) (by omega)]; omega
            refine ⟨fun _ => ⟨fun z => ?_, fun _ => ⟨fun z => ?_, fun _ => ?_⟩⟩, fun z => absurd z hne⟩
            · rw [lit_nI 8, nI_le_iff (by omega) (by omega)] at z; omega
            · rw [lit_nI 2, List.length_cons, List.length_cons, nI_I, nI_I, I_lt (by omega) (by omega)] at z; omega
            intro i4 e4
            have el1 : nI (y :: x :: q).length + (-1) = nI (q.length + 1) := by
              rw [List.length_cons, List.length_cons, nI_I, show (-1 : Int32) = I (-1) from rfl, I_add, nI_I]; congr 1; omega
            have el3 : nI (q.length + 1) - 1 = nI q.length := by rw [← nI_1, i32_sub_add]
            rw [el1, el3] at e4
            subst e4
            rw [el1, el3, nI_clamp (by omega), nI_clamp (by omega)]
            have hy : M3 77 (q.length + 1) = y := hpi.top
            have hxx : M3 77 q.length = x := hpi.sub.top
            rw [hy, hxx]
            refine ⟨vin_nI (by omega) (by omega), vin_nI (by omega) (by omega), s_C_joined ⟨q9, q14⟩ ⟨vin_nI (by omega) (by omega), fun M6 m6 => ?_⟩⟩
            unfold P_Claim_isTrue_130
            rw [nI_1]
            rw [hst] at hv2 hev
            refine ih M6 (jn (c % 32) x y :: q) ty2 (fun k k77 => by rw [m6, ms_off _ _ _ k77, h3 k k77]) hv2 hty hev ?_ (by simp only [List.length_cons]; omega)
            rw [m6, ms_row]
            exact hpi.sub.sub.push _
        · rcases hsh with ⟨q8, ql, hst⟩ | ⟨q8, _⟩ | ⟨q9, _⟩
          · rw [lit_nI 32, nI_le_iff (by omega) (by omega)]
            refine ⟨fun z => by omega, fun _ => ⟨vin_nI hi (by omega), ?_⟩⟩
            rw [nI_div (by omega) (by omega) (by omega)]
            refine hfound c _ M3 q8 hxb h3 ⟨vin_nI (by omega) (by omega), fun M6 m6 => ?_⟩
            rw [nI_clamp (by omega)] at m6
            unfold P_Claim_isTrue_130
            rw [nI_1, nI_1]
            rw [hst] at hv2 hev
            refine ih M6 (ask c :: st) ty2 (fun k k77 => by rw [m6, ms_off _ _ _ k77, h3 k k77]) hv2 hty hev ?_ (by simp only [List.length_cons]; omega)
            rw [m6, ms_row]
            exact hpi.push _
          · omega
          · omega
  obtain ⟨j, hj⟩ := key
  exact ⟨j, hj M [] [] (fun _ _ => rfl) trivial hty (by rw [← hfin]; rfl) (fun k v hv => by simp at hv) (by simp)⟩
theorem s_R_holds {post : Int32 → Mem → Prop} {ex : String → Mem → Prop} {ext : List CD} {n p : Int32} {cd : List Nat} (hD : Dk 1 M w) (hI : WInv w) (hL : Lw M w) (hS : SpOK w (-1) 0 lo hi (nn (w 9))) (hcd : inb n 0 (w 10 - 1) = true → CkC ext M (M 31) w (nn n) cd)
    (h : QX post ex M w [IOB] (qp1 (inb n 0 (w 10 - 1) && inb p 0 (w 8 - 1)) (bi (hoB (askA w (stA w lo hi (nn p)) (nn p)) cd)))) : P_R_holds ext post ex n p M := by
  unfold P_R_holds
  rw [hD.nc]
  refine s_R_within (s_want (fun c1 => s_wantPlate hD (fun c2 => ?_) (fun c2 => ?_)) (fun c1 => ?_))
  · simp only [qp1, c1, c2, Bool.and_self, Bool.not_true, Bool.false_eq_true, if_false] at h
    obtain ⟨hp, hp3⟩ := hI.inp c2
    obtain ⟨hn, hn10, hn6⟩ := hI.inc c1
    obtain ⟨kc, k1, k2, k3, k4, k5, k6, k7, k8, k9, k10⟩ := hcd c1
    have e31 : M 31 n.toNatClampNeg = nI kc := by
      have : n.toNatClampNeg = nn n := rfl
      rw [this]; exact k3
    rw [e31]
    refine ⟨by rw [hn]; exact vin_nI hn6 (by omega), by rw [show (0 : Int32) = nI 0 from rfl, nI_eq (by omega) (by omega)]; omega, kc, cd.length, by rw [nI_clamp (by omega)], k4, k5, ?_⟩
    rw [hp]
    refine s_C_openJ hD hI hL hp3 hS (fun M1 f1 hJ => s_C_tallySets hJ hI hp3 (fun M2 f2 ht => ?_))
    have hJ2 := hJ.t f2
    have h2 : (tlC M2).2.1 = -1 ∨ 0 ≤ (tlC M2).2.1.toInt := by
      rw [ht]
      rcases stF_2 (all := alA w) (ex := fun s => exB w lo hi (nn p) s 0) (nn (alA w) + 1) with q | ⟨x, q1, q2⟩
      · exact Or.inl q
      · right
        have hb : nn (alA w) < 2147483648 := by unfold nn; have := rngI (alA w); omega
        have e : (stA w lo hi (nn p)).2.1 = nI x := q2
        rw [e, nI_toI (by omega)]; omega
    refine s_C_isTrue (w := w) (p := nn p) hI k1 (fun j x hx => ?_) k8 k9 k10 h2 hJ2.2.2.1.2.1 hJ2.2.2.1.2.2.1 hJ2.2.1.1 (fun M3 f3 => ⟨bi_01 _, ?_⟩)
    · rw [f2.1 (kc + 1) (by omega), f1 (kc + 1) (by omega)]; exact k6 j x hx
    · rw [ht]
      exact h.go (f1.trans (f2.q.trans (fun c hc => f3 c (by omega)))) (Or.inr (hJ2.2.1.sp (f3 63 (by omega)) (f3 65 (by omega)) (f3 66 (by omega)) (by rw [f3 67 (by omega), f3 68 (by omega)]; exact hJ2.2.1.2.2.2.2)))
  · simp only [qp1, c2, Bool.and_false, Bool.not_false, if_true] at h; exact h.bad1
  · simp only [qp1, c1, Bool.false_and, Bool.not_false, if_true] at h; exact h.bad1
end HOLDS
