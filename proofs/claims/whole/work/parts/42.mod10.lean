/-! THE REFERENCE: most pairs, rows -/
def nt74 (x0 x1 : Int32) : Int32 := x1 + ush x0 1
def nt62 (x0 x1 : Int32) : Int32 := if x0 ≤ 4 then nt74 x0 x1 else nt74 (ush x0 2) (x1 + 2)
def nt49 (x0 x1 : Int32) : Int32 := if x0 ≤ 16 then nt62 x0 x1 else nt62 (ush x0 4) (x1 + 4)
def nt34 (x0 x1 : Int32) : Int32 := if x0 ≤ 256 then nt49 x0 x1 else nt49 (ush x0 8) (x1 + 8)
def ntF (x : Int32) : Int32 := if 0 < (x ^^^ (-1)) &&& (x - 1) then (if (x ^^^ (-1)) &&& (x - 1) ≤ 65536 then nt34 ((x ^^^ (-1)) &&& (x - 1)) 1 else nt34 (ush ((x ^^^ (-1)) &&& (x - 1)) 16) (1 + 16)) else ((x ^^^ (-1)) &&& (x - 1)) &&& 32
theorem s_nt62 {post : Int32 → Mem → Prop} {x0 x1 : Int32} {M : Mem} (h : post (nt62 x0 x1) M) : P_Integer_numberOfTrailingZeros_62 post x0 x1 M := by
  unfold nt62 at h
  refine ⟨fun c => ?_, fun c y e => ?_⟩
  · rw [if_pos c] at h; exact h
  · subst e; rw [if_neg c] at h; exact h
theorem s_nt49 {post : Int32 → Mem → Prop} {x0 x1 : Int32} {M : Mem} (h : post (nt49 x0 x1) M) : P_Integer_numberOfTrailingZeros_49 post x0 x1 M := by
  unfold nt49 at h
  refine ⟨fun c => s_nt62 ?_, fun c y e => s_nt62 ?_⟩
  · rw [if_pos c] at h; exact h
  · subst e; rw [if_neg c] at h; exact h
theorem s_nt34 {post : Int32 → Mem → Prop} {x0 x1 : Int32} {M : Mem} (h : post (nt34 x0 x1) M) : P_Integer_numberOfTrailingZeros_34 post x0 x1 M := by
  unfold nt34 at h
  refine ⟨fun c => s_nt49 ?_, fun c y e => s_nt49 ?_⟩
  · rw [if_pos c] at h; exact h
  · subst e; rw [if_neg c] at h; exact h
theorem s_ntF {post : Int32 → Mem → Prop} {x : Int32} {M : Mem} (h : post (ntF x) M) : P_Integer_numberOfTrailingZeros post x M := by
  unfold ntF at h
  intro y e
  subst e
  refine ⟨fun c => ⟨fun c2 => s_nt34 ?_, fun c2 z e => s_nt34 ?_⟩, fun c => ?_⟩
  · rw [if_pos c, if_pos c2] at h; exact h
  · subst e; rw [if_pos c, if_neg c2] at h; exact h
  · rw [if_neg c] at h; exact h
theorem ntF_all : ∀ x : Fin 1024, x.1 ≠ 0 → ntF (nI x.1) = nI (ntz (nI x.1)) := by decide +kernel
theorem shl_pow {n : Nat} (h : n < 31) : (1 : Int32) <<< (nI n &&& 31) = nI (2 ^ n) := by
  have : ∀ n : Fin 31, (1 : Int32) <<< (nI n.1 &&& 31) = nI (2 ^ n.1) := by decide +kernel
  exact this ⟨n, h⟩
def clrN (m b : Nat) : Nat := m &&& (1023 ^^^ 2 ^ b)
theorem t1023 {i : Nat} (h : i < 10) : Nat.testBit 1023 i = true := by
  have : ∀ i : Fin 10, Nat.testBit 1023 i.1 = true := by decide
  exact this ⟨i, h⟩
theorem clrN_bit {m b i : Nat} (hi : i < 10) : (clrN m b).testBit i = (m.testBit i && decide (i ≠ b)) := by
  unfold clrN
  rw [Nat.testBit_and, Nat.testBit_xor, t1023 hi, Nat.testBit_two_pow]
  by_cases e : b = i
  · simp [e]
  · simp [e]; intro _ h2; exact e h2.symm
theorem big_bit {m i : Nat} (hm : m < 1024) (hi : 10 ≤ i) : m.testBit i = false :=
  Nat.testBit_lt_two_pow (Nat.lt_of_lt_of_le hm (by
    have : (2 : Nat) ^ 10 ≤ 2 ^ i := Nat.pow_le_pow_right (by omega) hi
    omega))
theorem clrN_I {m b : Nat} (hm : m < 1024) (hb : b < 10) : nI m &&& (((1 : Int32) <<< (nI b &&& 31)) ^^^ (-1)) = nI (clrN m b) := by
  apply gb_ext
  intro e he
  rw [gb_and, gb_not _ he, gb_shl (by omega) he, gb_nI, gb_nI]
  by_cases h10 : e < 10
  · rw [clrN_bit h10]; simp [he]
  · have h1 := big_bit hm (i := e) (by omega)
    have h2 : (clrN m b).testBit e = false := by unfold clrN; rw [Nat.testBit_and, h1]; rfl
    rw [h1, h2]; simp
theorem clrN_le (m b : Nat) : clrN m b ≤ m := Nat.and_le_left
def numL (L : List Int32) (k : Nat) : Int32 := L.getD k 0
theorem numL_rg {L : List Int32} (h : ∀ x ∈ L, rg x 0 10000000) (k : Nat) : rg (numL L k) 0 10000000 := by
  unfold numL
  rw [List.getD_eq_getElem?_getD]
  cases hk : L[k]? with
  | none => exact ⟨by decide, by decide⟩
  | some x => exact h x (List.mem_of_getElem? hk)
theorem edB_sym {L : List Int32} (h : ∀ x ∈ L, rg x 0 10000000) (fr to_ : Int32) (u v : Nat) : edB (numL L) fr to_ u v = edB (numL L) fr to_ v u := by
  unfold edB
  rw [jabs_sym _ _ (numL_rg h u) (numL_rg h v)]
theorem NuOK.num {M : Mem} {L : List Int32} (h : NuOK M L) {k : Nat} (hk : k < L.length) : M 7 k = numL L k := by
  have h1 := h.2 k L[k] (List.getElem?_eq_getElem hk)
  rw [h1]; simp [numL, List.getD_eq_getElem?_getD, hk]
theorem mxF_congr {E : Nat → Nat → Bool} (hE : ∀ u v, E u v = E v u) {n : Nat} {S T : Nat → Bool} (h : ∀ i, i < n → S i = T i) : mxF E n S = mxF E n T :=
  eq_of_le_iff fun k => by
    rw [mxF_iff hE, mxF_iff hE]
    exact Mat.iff fun i => ⟨fun hi => ⟨hi.1, by rw [← h i hi.1]; exact hi.2⟩, fun hi => ⟨hi.1, by rw [h i hi.1]; exact hi.2⟩⟩
/-- how many pairs at a step -/
def nuF (L : List Int32) (fr to_ : Int32) : Nat := mxF (edB (numL L) fr to_) L.length (fun _ => true)
theorem s_M_mostPairs {post : Int32 → Mem → Prop} {fr to_ : Int32} {L : List Int32} {M : Mem} (hL : NuOK M L) (hlen : L.length ≤ 10) (hr : ∀ x ∈ L, rg x 0 10000000) (h : ∀ M', (∀ c, c ≠ 8 → M' c = M c) → post (nI (nuF L fr to_)) M') : P_M_mostPairs post fr to_ M := by
  have hE := edB_sym hr fr to_
  intro x3 e3 
  rw [hL.1, shl_pow (by omega)] at e3
  subst e3
  have hp : 2 ^ L.length ≤ 1024 := by
    have : (2 : Nat) ^ L.length ≤ 2 ^ 10 := Nat.pow_le_pow_right (by omega) hlen
    omega
  have hp1 : 1 ≤ 2 ^ L.length := Nat.one_le_two_pow
  refine ⟨vin_nI (n := 0) (by omega) (by omega), fun M2 e2 => ?_⟩
  have key : ∃ j, ∀ M', (∀ c, c ≠ 8 → M' c = M c) → (∀ m, m < 1 → M' 8 m = nI (dmF (edB (numL L) fr to_) L.length m)) → P_M_mostPairs_17 post j fr to_ (nI (2 ^ L.length)) (nI 1) M' := by
    refine lpFrom (R := fun j x => ∀ M', (∀ c, c ≠ 8 → M' c = M c) → (∀ m, m < x → M' 8 m = nI (dmF (edB (numL L) fr to_) L.length m)) → P_M_mostPairs_17 post j fr to_ (nI (2 ^ L.length)) (nI x) M') (N := 2 ^ L.length) hp1 (fun n M' hM hD => brSt rfl ?_) (fun n x hx1 hx ih M' hM hD => brGo rfl (by omega) hx (s_ntF ?_))
    · have e4 : nI (2 ^ L.length) - (1 : Int32) = nI (2 ^ L.length - 1) := by rw [nI_I, I_1, I_sub, nI_I]; congr 1; omega
      rw [e4]
      refine ⟨vin_nI (by omega) (by omega), ?_⟩
      rw [nI_clamp (by omega), hD _ (by omega)]
      have e5 : dmF (edB (numL L) fr to_) L.length (2 ^ L.length - 1) = nuF L fr to_ := by
        refine mxF_congr hE fun i hi => ?_
        rw [Nat.testBit_two_pow_sub_one]; simp [hi]
      rw [e5]
      exact h M' hM
    · obtain ⟨a1, a2, a3, a4⟩ := ntz_all ⟨x, by omega⟩ (by simp; omega)
      have a5 := ntz_low ⟨x, by omega⟩
      have a6 := ntF_all ⟨x, by omega⟩ (by simp; omega)
      simp only at a1 a2 a3 a4 a5 a6
      rw [a6]
      generalize ntz (nI x) = a at a1 a2 a4 a5 ⊢
      intro x6 e6
      have e7 : nI x - (1 : Int32) = nI (x - 1) := by rw [nI_I, I_1, I_sub, nI_I]; congr 1; omega
      rw [e7, nI_and] at e6
      generalize hrest : x &&& (x - 1) = rest at a3 a4 e6
      subst e6
      refine ⟨vin_nI (by omega) (by omega), vin_nI (by omega) (by omega), fun M3 e3 => ?_⟩
      rw [nI_clamp (by omega), nI_clamp (by omega), hD rest (by omega)] at e3
      intro x7 e7
      rw [nI_1] at e7
      subst e7
      have rbit : ∀ i, i < L.length → (rest.testBit i = true ↔ x.testBit i = true ∧ i ≠ a) := by
        intro i hi
        have := a4 ⟨i, by omega⟩
        simp only at this
        rw [this]; simp
      have han : a < L.length := by
        refine Nat.lt_of_not_le fun hle => ?_
        have h1 : x.testBit a = false := Nat.testBit_lt_two_pow (Nat.lt_of_lt_of_le hx (Nat.pow_le_pow_right (by omega) hle))
        rw [h1] at a1; cases a1
      have inner : ∃ j2, ∀ M' V, (∀ c, c ≠ 8 → M' c = M c) → (∀ m, m < x → M' 8 m = nI (dmF (edB (numL L) fr to_) L.length m)) → M' 8 x = nI V → V ≤ 1000 → (∀ k, k ≤ V ↔ k ≤ dmF (edB (numL L) fr to_) L.length rest ∨ ∃ b', a < b' ∧ b' < a + 1 ∧ rest.testBit b' = true ∧ edB (numL L) fr to_ a b' = true ∧ k ≤ 1 + dmF (edB (numL L) fr to_) L.length (clrN rest b')) → P_M_mostPairs_59 post (P_M_mostPairs_17 post n) j2 fr to_ (nI (2 ^ L.length)) (nI x) (nI a) (nI rest) (nI (a + 1)) M' := by
        refine lpFrom (R := fun j2 b => ∀ M' V, (∀ c, c ≠ 8 → M' c = M c) → (∀ m, m < x → M' 8 m = nI (dmF (edB (numL L) fr to_) L.length m)) → M' 8 x = nI V → V ≤ 1000 → (∀ k, k ≤ V ↔ k ≤ dmF (edB (numL L) fr to_) L.length rest ∨ ∃ b', a < b' ∧ b' < b ∧ rest.testBit b' = true ∧ edB (numL L) fr to_ a b' = true ∧ k ≤ 1 + dmF (edB (numL L) fr to_) L.length (clrN rest b')) → P_M_mostPairs_59 post (P_M_mostPairs_17 post n) j2 fr to_ (nI (2 ^ L.length)) (nI x) (nI a) (nI rest) (nI b) M') (N := L.length) (a := a + 1) (by omega) (fun j2 M' V hM' hD' hV hVb hk => ?_) (fun j2 b hb1 hb ih2 M' V hM' hD' hV hVb hk => ?_)
        · refine brSt (by rw [hM' 0 (by omega)]; exact hL.1) ?_
          rw [nI_1]
          refine ih M' hM' (fun m hm => ?_)
          by_cases e : m = x
          · subst e
            rw [hV]
            congr 1
            refine eq_of_le_iff fun k => ?_
            rw [hk]
            cases k with
            | zero => simp
            | succ k =>
              have s1 := Mat.split hE (k := k) (S := fun i => i < L.length ∧ m.testBit i = true) (v := a) ⟨han, a1⟩
              have s2 : k + 1 ≤ dmF (edB (numL L) fr to_) L.length m ↔ _ := mxF_iff hE
              rw [s2, s1]
              refine or_congr ?_ ?_
              · have s3 : k + 1 ≤ dmF (edB (numL L) fr to_) L.length rest ↔ _ := mxF_iff hE
                rw [s3]
                exact Mat.iff fun i => ⟨fun hi => ⟨⟨hi.1, ((rbit i hi.1).mp hi.2).1⟩, ((rbit i hi.1).mp hi.2).2⟩, fun hi => ⟨hi.1.1, (rbit i hi.1.1).mpr ⟨hi.1.2, hi.2⟩⟩⟩
              · constructor
                · rintro ⟨b', g1, g2, g3, g4, g5⟩
                  refine ⟨b', by omega, ⟨g2, ((rbit b' g2).mp g3).1⟩, by rw [hE]; exact g4, ?_⟩
                  have g6 : k ≤ dmF (edB (numL L) fr to_) L.length (clrN rest b') := by omega
                  have s3 : k ≤ dmF (edB (numL L) fr to_) L.length (clrN rest b') ↔ _ := mxF_iff hE
                  rw [s3] at g6
                  refine g6.mono fun i hi => ?_
                  have h9 := hi.2
                  rw [clrN_bit (by omega)] at h9
                  simp only [Bool.and_eq_true, decide_eq_true_eq] at h9
                  exact ⟨⟨hi.1, ((rbit i hi.1).mp h9.1).1⟩, ((rbit i hi.1).mp h9.1).2, h9.2⟩
                · rintro ⟨u, g1, g2, g3, g4⟩
                  have hau : a < u := by
                    refine Nat.lt_of_le_of_ne (Nat.le_of_not_lt fun hlt => ?_) (fun e => g1 e.symm)
                    have := a5 ⟨u, by omega⟩ hlt
                    simp only at this
                    rw [g2.2] at this; cases this
                  refine ⟨u, hau, g2.1, (rbit u g2.1).mpr ⟨g2.2, g1⟩, by rw [hE]; exact g3, ?_⟩
                  have g6 : k ≤ dmF (edB (numL L) fr to_) L.length (clrN rest u) := by
                    have s3 : k ≤ dmF (edB (numL L) fr to_) L.length (clrN rest u) ↔ _ := mxF_iff hE
                    rw [s3]
                    refine g4.mono fun i hi => ⟨hi.1.1, ?_⟩
                    rw [clrN_bit (by omega), (rbit i hi.1.1).mpr ⟨hi.1.2, hi.2.1⟩]
                    simp [hi.2.2]
                  omega
          · exact hD' m (by omega)
        · have hb10 : b < 10 := by omega
          refine brGo (by rw [hM' 0 (by omega)]; exact hL.1) (by omega) hb ?_
          have no : (rest.testBit b && edB (numL L) fr to_ a b) = false → P_M_mostPairs_140 post (P_M_mostPairs_17 post n) (P_M_mostPairs_59 post (P_M_mostPairs_17 post n) j2) fr to_ (nI (2 ^ L.length)) (nI x) (nI a) (nI rest) (nI b) M' := by
            intro hno
            unfold P_M_mostPairs_140
            rw [nI_1]
            refine ih2 M' V hM' hD' hV hVb (fun k => ?_)
            rw [hk k]
            refine or_congr Iff.rfl ⟨?_, ?_⟩
            · rintro ⟨b', g1, g2, g3⟩; exact ⟨b', g1, by omega, g3⟩
            · rintro ⟨b', g1, g2, g3, g4, g5⟩
              by_cases e : b' = b
              · subst e; rw [g3, g4] at hno; cases hno
              · exact ⟨b', g1, by omega, g3, g4, g5⟩
          have etb : tb (nI rest) b = rest.testBit b := by rw [tb_gb (by omega), gb_nI]; simp; intro; omega
          refine ⟨fun c => no ?_, fun c => ⟨vin_nI a2 (by omega), vin_nI hb10 (by omega), s_abs (s_M_in ?_)⟩⟩
          · rw [← etb, tb_0.mp c]; rfl
          · have c2 : rest.testBit b = true := by
              cases ht : rest.testBit b with
              | true => rfl
              | false => exact absurd (tb_0.mpr (by rw [etb]; exact ht)) c
            rw [nI_clamp (by omega), nI_clamp (by omega), hM' 7 (by omega), hL.num han, hL.num hb]
            have eed : inb (jabs (numL L a - numL L b)) fr to_ = edB (numL L) fr to_ a b := rfl
            rw [eed]
            refine bn0 (fun ce => no (by rw [ce]; simp)) (fun ce => ⟨vin_nI (by omega) (by omega), fun i3 e3' => ?_⟩)
            rw [clrN_I (by omega) hb10] at e3'
            subst e3'
            have hcl := clrN_le rest b
            refine ⟨vin_nI (by omega) (by omega), s_max ⟨vin_nI (by omega) (by omega), fun M5 e5 => ?_⟩⟩
            rw [nI_clamp (by omega), nI_clamp (by omega), hV, hD' _ (by omega)] at e5
            have hdb : dmF (edB (numL L) fr to_) L.length (clrN rest b) ≤ L.length := mxF_le _ _ _
            generalize hdv : dmF (edB (numL L) fr to_) L.length (clrN rest b) = dv at hdb e5
            have e8 : jmax (nI V) (1 + nI dv) = nI (max V (1 + dv)) := by
              rw [eqI, jmaxI, show (1 : Int32) + nI dv = nI (1 + dv) from nI_add 1 dv, nI_toI (by omega), nI_toI (by omega), nI_toI (by omega)]; omega
            rw [e8] at e5
            unfold P_M_mostPairs_140
            rw [nI_1]
            refine ih2 M5 (max V (1 + dv)) (fun c hc => by rw [e5, ms_off _ _ _ hc, hM' c hc]) (fun m hm => ?_) (by rw [e5, ms_row]; simp [upd]) (by omega) (fun k => ?_)
            · rw [e5, ms_row]
              simp only [upd]
              rw [if_neg (by omega)]; exact hD' m hm
            · have e9 : k ≤ max V (1 + dv) ↔ k ≤ V ∨ k ≤ 1 + dv := by omega
              rw [e9, hk k]
              constructor
              · rintro ((h1 | ⟨b', g1, g2, g3⟩) | h1)
                · exact Or.inl h1
                · exact Or.inr ⟨b', g1, by omega, g3⟩
                · exact Or.inr ⟨b, by omega, by omega, c2, ce, by rw [hdv]; exact h1⟩
              · rintro (h1 | ⟨b', g1, g2, g3, g4, g5⟩)
                · exact Or.inl (Or.inl h1)
                · by_cases e : b' = b
                  · subst e; rw [hdv] at g5; exact Or.inr g5
                  · exact Or.inl (Or.inr ⟨b', g1, by omega, g3, g4, g5⟩)
      obtain ⟨j2, hj2⟩ := inner
      refine ⟨j2, hj2 M3 (dmF (edB (numL L) fr to_) L.length rest) (fun c hc => by rw [e3, ms_off _ _ _ hc, hM c hc]) (fun m hm => ?_) (by rw [e3, ms_row]; simp [upd]) (by have : dmF (edB (numL L) fr to_) L.length rest ≤ L.length := mxF_le _ _ _; omega) (fun k => ?_)⟩
      · rw [e3, ms_row]
        simp only [upd]
        rw [if_neg (by omega)]; exact hD m hm
      · constructor
        · exact Or.inl
        · rintro (h1 | ⟨b', g1, g2, _⟩)
          · exact h1
          · omega
  obtain ⟨j, hj⟩ := key
  refine ⟨j, hj M2 (fun c hc => by rw [e2, ms_off _ _ _ hc]) (fun m hm => ?_)⟩
  have e0 : m = 0 := by omega
  subst e0
  have e4 : dmF (edB (numL L) fr to_) L.length 0 = 0 := by
    refine eq_of_le_iff fun k => ?_
    have s3 : k ≤ dmF (edB (numL L) fr to_) L.length 0 ↔ _ := mxF_iff hE
    rw [s3]
    cases k with
    | zero => simp [Mat]
    | succ k =>
      constructor
      · rintro ⟨u, v, _, h2, _⟩; simp at h2
      · intro hk; omega
  rw [e4, e2, ms_row]
  simp [upd, nI_0]
