/-! THE CLASS: rows -/
theorem sub_clr : ∀ x : Fin 1024, ∀ j : Fin 10, x.1.testBit j.1 = true → 2 ^ j.1 ≤ x.1 ∧ x.1 - 2 ^ j.1 = clrN x.1 j.1 := by decide +kernel
theorem nar_nI {v : Nat} (h : v ≤ 100) : vp_nar .byte (nI v) = nI v := by
  have : ∀ v : Fin 101, vp_nar .byte (nI v.1) = nI v.1 := by decide +kernel
  exact this ⟨v, by omega⟩
theorem byte_nI {v : Nat} (h : v ≤ 100) : (nI v).toInt8.toInt32 = nI v := by
  have : ∀ v : Fin 101, (nI v.1).toInt8.toInt32 = nI v.1 := by decide +kernel
  exact this ⟨v, by omega⟩
theorem maxN_congr {f g : Nat → Nat} {p q : Nat → Bool} : ∀ {n : Nat}, (∀ u, u < n → p u = q u ∧ f u = g u) → maxN f p n = maxN g q n
  | 0, _ => rfl
  | n + 1, h => by simp only [maxN]; rw [maxN_congr (n := n) (fun u hu => h u (by omega)), (h n (by omega)).1, (h n (by omega)).2]
theorem maxN_0 {f : Nat → Nat} {p : Nat → Bool} : ∀ {n : Nat}, (∀ u, u < n → p u = false) → maxN f p n = 0
  | 0, _ => rfl
  | n + 1, h => by simp only [maxN]; rw [maxN_0 (n := n) (fun u hu => h u (by omega)), h n (by omega)]; rfl
theorem dmF_top {E : Nat → Nat → Bool} (hE : ∀ u v, E u v = E v u) {i x : Nat} (hx : x < 2 ^ i) : dmF E (i + 1) (2 ^ i + x) = max (dmF E i x) (maxN (fun u => 1 + mxF E i (fun k => x.testBit k && decide (k ≠ u))) (fun u => x.testBit u && E u i) i) := by
  have hb : ∀ k, k < i → (2 ^ i + x).testBit k = x.testBit k := fun k hk => Nat.testBit_two_pow_add_gt hk x
  unfold dmF
  simp only [mxF]
  rw [if_pos (by rw [Nat.testBit_two_pow_add_eq, Nat.testBit_lt_two_pow hx]; rfl)]
  congr 1
  · exact mxF_congr hE (fun k hk => hb k hk)
  · refine maxN_congr (fun u hu => ⟨by simp only [hb u hu], ?_⟩)
    congr 1
    exact mxF_congr hE (fun k hk => by simp only [hb k hk])
section ROWS
variable {w lo hi : Nat → Int32} {M : Mem} {L : List Int32}
theorem s_C_mostPairs {post : Int32 → Mem → Prop} {fr to_ : Int32} (hN : NuC M L) (hlen : L.length ≤ 10) (hr : ∀ x ∈ L, rg x 0 10000000) (hP : ∀ i, i < L.length → M 82 i = bitF (edB (numL L) fr to_ i) i) (h : ∀ M', (∀ c, c ≠ 83 → M' c = M c) → post (nI (nuF L fr to_)) M') : P_Rows_mostPairs post M := by
  have hE := edB_sym hr fr to_
  unfold nuF at h
  have h80 := hN.1
  generalize edB (numL L) fr to_ = E at hE hP h
  generalize L.length = n at hlen hP h h80
  refine ⟨vin_nI (n := 0) (by omega) (by omega), fun M1 e1 => ?_⟩
  have hp2 : ∀ i, i ≤ 10 → 2 ^ i ≤ 1024 := fun i hi => by
    have : (2 : Nat) ^ i ≤ 2 ^ 10 := Nat.pow_le_pow_right (by omega) hi
    omega
  have key : ∃ j, ∀ M', (∀ c, c ≠ 83 → M' c = M c) → (∀ m, m < 2 ^ 0 → M' 83 m = nI (dmF E 0 m)) → P_Rows_mostPairs_9 post j (nI 0) M' := by
    refine lpN (R := fun j i => ∀ M', (∀ c, c ≠ 83 → M' c = M c) → (∀ m, m < 2 ^ i → M' 83 m = nI (dmF E i m)) → P_Rows_mostPairs_9 post j (nI i) M') (N := n) (fun j M' f' t' => ?_) (fun j i hi ih M' f' t' => ?_)
    · have q1 := hp2 n hlen
      have q2 := Nat.one_le_two_pow (n := n)
      refine brSt (by rw [f' 80 (by omega)]; exact h80) (fun i1 e2 => ?_)
      have e4 : nI (2 ^ n) - (1 : Int32) = nI (2 ^ n - 1) := by rw [nI_I, I_1, I_sub, nI_I]; congr 1; omega
      rw [f' 80 (by omega), h80, shl_pow (by omega), e4] at e2
      subst e2
      refine ⟨vin_nI (by omega) (by omega), ?_⟩
      rw [nI_clamp (by omega), t' _ (by omega)]
      have e5 : dmF E n (2 ^ n - 1) = mxF E n (fun _ => true) := by
        refine mxF_congr hE fun i hi => ?_
        rw [Nat.testBit_two_pow_sub_one]; simp [hi]
      rw [e5]
      exact h M' f'
    · have h2i := hp2 (i + 1) (by omega)
      have h2s : 2 ^ (i + 1) = 2 ^ i + 2 ^ i := by rw [Nat.pow_succ]; omega
      have h1i := Nat.one_le_two_pow (n := i)
      refine brGo (by rw [f' 80 (by omega)]; exact h80) (by omega) hi ?_
      have mid : ∃ q, ∀ M', (∀ c, c ≠ 83 → M' c = M c) → (∀ m, m < 2 ^ i → M' 83 m = nI (dmF E i m)) → (∀ m, m < 0 → M' 83 (2 ^ i + m) = nI (dmF E (i + 1) (2 ^ i + m))) → P_Rows_mostPairs_19 post (P_Rows_mostPairs_9 post j) q (nI i) (nI 0) M' := by
        refine lpN (R := fun q x => ∀ M', (∀ c, c ≠ 83 → M' c = M c) → (∀ m, m < 2 ^ i → M' 83 m = nI (dmF E i m)) → (∀ m, m < x → M' 83 (2 ^ i + m) = nI (dmF E (i + 1) (2 ^ i + m))) → P_Rows_mostPairs_19 post (P_Rows_mostPairs_9 post j) q (nI i) (nI x) M') (N := 2 ^ i) (fun q M' f' t' s' => ?_) (fun q x hx ih2 M' f' t' s' => ?_)
        · refine brSt (shl_pow (by omega)) ?_
          rw [nI_1]
          refine ih M' f' (fun m hm => ?_)
          by_cases hm2 : m < 2 ^ i
          · rw [t' m hm2]
            congr 1
            unfold dmF
            simp only [mxF]
            rw [if_neg (by rw [Nat.testBit_lt_two_pow hm2]; simp)]
          · have := s' (m - 2 ^ i) (by omega)
            rw [show 2 ^ i + (m - 2 ^ i) = m by omega] at this
            exact this
        · refine brGo (shl_pow (by omega)) (by omega) hx ⟨vin_nI (by omega) (by omega), fun x3 e3 => ⟨vin_nI (by omega) (by omega), ?_⟩⟩
          rw [show (nI i).toNatClampNeg = i from nI_clamp (by omega), f' 82 (by omega), hP i hi] at e3
          rw [show (nI x).toNatClampNeg = x from nI_clamp (by omega), t' x hx]
          have tbx : ∀ u, u < i → tb x3 u = (x.testBit u && E u i) := fun u hu => by
            rw [tb_gb (by omega), e3, gb_and, bitF_gb _ _ (by omega) u (by omega), gb_nI, decide_eq_true hu, decide_eq_true (show u < 32 by omega), hE u i, Bool.true_and, Bool.true_and, Bool.and_comm]
          have htop := dmF_top hE hx
          generalize hf : (fun u => 1 + mxF E i (fun k => x.testBit k && decide (k ≠ u))) = f at htop
          generalize hp : (fun u => x.testBit u && E u i) = p at htop
          have hfu : ∀ u, f u = 1 + mxF E i (fun k => x.testBit k && decide (k ≠ u)) := fun u => by rw [← hf]
          have hpu : ∀ u, p u = (x.testBit u && E u i) := fun u => by rw [← hp]
          have hDle : dmF E i x ≤ i := mxF_le _ _ _
          have hle : ∀ u, maxN f p u ≤ 20 := by
            intro u
            induction u with
            | zero => simp [maxN]
            | succ u ihu =>
              simp only [maxN]
              have := mxF_le E i (fun k => x.testBit k && decide (k ≠ u))
              rw [hfu u]
              split <;> omega
          have fin : ∀ V, V = dmF E (i + 1) (2 ^ i + x) → P_Rows_mostPairs_105 post (P_Rows_mostPairs_9 post j) (P_Rows_mostPairs_19 post (P_Rows_mostPairs_9 post j) q) (nI i) (nI x) (nI V) M' := by
            intro V hV
            have hVb : V ≤ 100 := by have := hle i; rw [hV, htop]; omega
            unfold P_Rows_mostPairs_105
            rw [shl_pow (by omega), nI_add, nar_nI hVb]
            refine ⟨vin_nI (by omega) (by omega), fun M5 e5 => ?_⟩
            rw [nI_clamp (by omega)] at e5
            rw [nI_1]
            refine ih2 M5 (fun c hc => by rw [e5, ms_off _ _ _ hc]; exact f' c hc) (fun m hm => ?_) (fun m hm => ?_)
            · rw [e5, ms_ne _ _ _ (by omega)]; exact t' m hm
            · by_cases e : m = x
              · rw [e, e5, ms_at, hV]
              · rw [e5, ms_ne _ _ _ (by omega)]; exact s' m (by omega)
          have inner : ∃ k, P_Rows_mostPairs_46 post (P_Rows_mostPairs_9 post j) (P_Rows_mostPairs_19 post (P_Rows_mostPairs_9 post j) q) k (nI i) (nI x) x3 (nI (max (dmF E i x) (maxN f p 0))) (nI 0) M' := by
            refine lpN (R := fun k u => P_Rows_mostPairs_46 post (P_Rows_mostPairs_9 post j) (P_Rows_mostPairs_19 post (P_Rows_mostPairs_9 post j) q) k (nI i) (nI x) x3 (nI (max (dmF E i x) (maxN f p u))) (nI u) M') (N := i) (fun k => brSt rfl (fin _ htop.symm)) (fun k u hu ih3 => brGo rfl (by omega) hu ⟨fun c => fin _ ?_, fun c => s_C_has (b0n (fun c2 => ?_) (fun c2 i2 e6 => ?_))⟩)
            · have hz : ∀ v, v < i → p v = false := fun v hv => by
                rw [hpu v, ← tbx v hv, c, tb_gb (by omega), gb_0]
              rw [htop, maxN_0 hz, maxN_0 (fun v hv => hz v (by omega))]
            · have : maxN f p (u + 1) = maxN f p u := by
                simp only [maxN]; rw [hpu u, ← tbx u hu, c2]; simp
              rw [this, ← nI_1] at ih3
              exact ih3
            · rw [tbx u hu] at c2
              have c3 : x.testBit u = true := by rw [Bool.and_eq_true] at c2; exact c2.1
              obtain ⟨s1, s2⟩ := sub_clr ⟨x, by omega⟩ ⟨u, by omega⟩ c3
              simp only [] at s1 s2
              have e7 : nI x - (1 : Int32) <<< (nI u &&& 31) = nI (clrN x u) := by
                rw [shl_pow (by omega), ← s2, nI_I, nI_I, I_sub, nI_I]; congr 1; omega
              rw [e7] at e6
              subst e6
              have hcl := clrN_le x u
              have ed : M' 83 (clrN x u) = nI (dmF E i (clrN x u)) := t' _ (by omega)
              have ef : f u = 1 + dmF E i (clrN x u) := by
                rw [hfu u]
                congr 1
                exact mxF_congr hE (fun v hv => by rw [clrN_bit (by omega)])
              have hdl : dmF E i (clrN x u) ≤ i := mxF_le _ _ _
              have em : maxN f p (u + 1) = max (maxN f p u) (1 + dmF E i (clrN x u)) := by
                simp only [maxN]; rw [hpu u, c2, if_pos rfl, ef]
              rw [em] at ih3
              have hlu := hle u
              rw [show (nI (clrN x u)).toNatClampNeg = clrN x u from nI_clamp (by omega), ed, nI_1]
              refine ⟨vin_nI (by omega) (by omega), ?_⟩
              rw [nI_le_iff (by omega) (by omega)]
              refine ⟨fun c4 => ?_, fun c4 i3 e8 => ?_⟩
              · unfold P_Rows_mostPairs_99
                rw [nI_1]
                rw [show max (dmF E i x) (max (maxN f p u) (1 + dmF E i (clrN x u))) = max (dmF E i x) (maxN f p u) by omega] at ih3
                exact ih3
              · rw [e7] at e8
                subst e8
                refine ⟨vin_nI (by omega) (by omega), fun x4 e9 => ?_⟩
                rw [show (nI (clrN x u)).toNatClampNeg = clrN x u from nI_clamp (by omega), ed, nI_1, byte_nI (by omega)] at e9
                subst e9
                unfold P_Rows_mostPairs_99
                rw [nI_1]
                rw [show max (dmF E i x) (max (maxN f p u) (1 + dmF E i (clrN x u))) = dmF E i (clrN x u) + 1 by omega] at ih3
                exact ih3
          have e0 : max (dmF E i x) (maxN f p 0) = dmF E i x := by simp [maxN]
          rw [e0] at inner
          exact inner
      obtain ⟨q, hq⟩ := mid
      exact ⟨q, hq M' f' t' (fun m hm => by omega)⟩
  obtain ⟨j, hj⟩ := key
  refine ⟨j, hj M1 (fun c hc => by rw [e1, ms_off _ _ _ hc]) (fun m hm => ?_)⟩
  have e0 : m = 0 := by simpa using hm
  subst e0
  rw [e1]
  show ms M 83 0 (vp_nar .byte (nI 0)) 83 0 = nI (dmF E 0 0)
  rw [ms_at, nar_nI (by omega)]
  rfl
/-! steps -/
def lsS (b s t : Int32) : Int32 := if s ≤ b then t else if t = -1 then s else if t ≤ s then t else s
def lsB (num : Nat → Int32) (b : Int32) (a : Nat) (t : Int32) : Nat → Int32
  | 0 => t
  | j + 1 => lsS b (jabs (num a - num j)) (lsB num b a t j)
def lsA (num : Nat → Int32) (b : Int32) : Nat → Int32
  | 0 => -1
  | a + 1 => lsB num b a (lsA num b a) a
theorem s_C_leastStep {post : Int32 → Mem → Prop} {b : Int32} (hN : NuC M L) (hlen : L.length ≤ 10) (h : post (lsA (numL L) b L.length) M) : P_Rows_leastStepAbove post b M := by
  refine lpN (R := fun j a => P_Rows_leastStepAbove_4 post j b (lsA (numL L) b a) (nI a) M) (N := L.length) (fun j => brSt hN.1 h) (fun j a ha ih => brGo hN.1 (by omega) ha ?_)
  refine lpN (R := fun q c => P_Rows_leastStepAbove_15 post (P_Rows_leastStepAbove_4 post j) q b (lsB (numL L) b a (lsA (numL L) b a) c) (nI a) (nI c) M) (N := a) (fun q => brSt rfl ?_) (fun q c hc ih2 => brGo rfl (by omega) hc ⟨vin_nI (by omega) (by omega), vin_nI (by omega) (by omega), s_abs ?_⟩)
  · rw [nI_1]; exact ih
  · rw [nI_clamp (by omega), nI_clamp (by omega), hN.2 a ha, hN.2 c (by omega)]
    have e : lsB (numL L) b a (lsA (numL L) b a) (c + 1) = lsS b (jabs (numL L a - numL L c)) (lsB (numL L) b a (lsA (numL L) b a) c) := rfl
    rw [e] at ih2
    generalize jabs (numL L a - numL L c) = s at ih2 ⊢
    generalize lsB (numL L) b a (lsA (numL L) b a) c = t at ih2 ⊢
    unfold P_Rows_leastStepAbove_57 P_Rows_leastStepAbove_60
    rw [nI_1]
    unfold lsS at ih2
    refine ⟨fun c1 => ?_, fun c1 => ⟨fun c2 => ?_, fun c2 => ⟨fun c3 => ?_, fun c3 => ?_⟩⟩⟩
    · rw [if_pos c1] at ih2; exact ih2
    · rw [if_neg c1, if_pos c2] at ih2; exact ih2
    · rw [if_neg c1, if_neg c2, if_pos c3] at ih2; exact ih2
    · rw [if_neg c1, if_neg c2, if_neg c3] at ih2; exact ih2
def StP (num : Nat → Int32) (n : Nat) (s : Int32) : Prop := ∃ i j, j < i ∧ i < n ∧ s = jabs (num i - num j)
def LsOK (b : Int32) (D : Int32 → Prop) (t : Int32) : Prop := (t = -1 ∧ ∀ s, D s → s ≤ b) ∨ (D t ∧ ¬ t ≤ b ∧ ¬ t = -1 ∧ ∀ s, D s → s ≤ b ∨ t ≤ s)
theorem LsOK.iff {b t : Int32} {D F : Int32 → Prop} (h : ∀ s, D s ↔ F s) (hl : LsOK b D t) : LsOK b F t := by
  have : D = F := funext fun s => propext (h s)
  rw [← this]; exact hl
theorem le_tot (x y : Int32) : x ≤ y ∨ y ≤ x := by rw [leI, leI]; omega
theorem le_tr {x y z : Int32} (h1 : x ≤ y) (h2 : y ≤ z) : x ≤ z := by rw [leI] at *; omega
theorem nle_le {x y : Int32} (h : ¬ x ≤ y) : y ≤ x := by rw [leI] at *; omega
theorem lsS_ok {b s t : Int32} {D : Int32 → Prop} (h : LsOK b D t) (hs : ¬ s = -1) : LsOK b (fun x => D x ∨ x = s) (lsS b s t) := by
  unfold lsS
  by_cases c1 : s ≤ b
  · rw [if_pos c1]
    rcases h with ⟨h1, h2⟩ | ⟨h1, h2, h3, h4⟩
    · exact Or.inl ⟨h1, fun x hx => hx.elim (h2 x) (fun e => e ▸ c1)⟩
    · exact Or.inr ⟨Or.inl h1, h2, h3, fun x hx => hx.elim (h4 x) (fun e => Or.inl (e ▸ c1))⟩
  · rw [if_neg c1]
    rcases h with ⟨h1, h2⟩ | ⟨h1, h2, h3, h4⟩
    · rw [if_pos h1]
      exact Or.inr ⟨Or.inr rfl, c1, hs, fun x hx => hx.elim (fun q => Or.inl (h2 x q)) (fun e => Or.inr (by rw [e, leI]; omega))⟩
    · rw [if_neg h3]
      by_cases c3 : t ≤ s
      · rw [if_pos c3]
        exact Or.inr ⟨Or.inl h1, h2, h3, fun x hx => hx.elim (h4 x) (fun e => Or.inr (e ▸ c3))⟩
      · rw [if_neg c3]
        exact Or.inr ⟨Or.inr rfl, c1, hs, fun x hx => hx.elim (fun q => (h4 x q).imp id (fun q2 => le_tr (nle_le c3) q2)) (fun e => Or.inr (by rw [e, leI]; omega))⟩
theorem StP_split {num : Nat → Int32} {a c : Nat} (s : Int32) : (StP num a s ∨ ∃ j, j < c + 1 ∧ s = jabs (num a - num j)) ↔ ((StP num a s ∨ ∃ j, j < c ∧ s = jabs (num a - num j)) ∨ s = jabs (num a - num c)) := by
  constructor
  · rintro (h | ⟨j, h1, h2⟩)
    · exact Or.inl (Or.inl h)
    · by_cases e : j = c
      · subst e; exact Or.inr h2
      · exact Or.inl (Or.inr ⟨j, by omega, h2⟩)
  · rintro ((h | ⟨j, h1, h2⟩) | h)
    · exact Or.inl h
    · exact Or.inr ⟨j, by omega, h2⟩
    · exact Or.inr ⟨c, by omega, h⟩
theorem StP_succ {num : Nat → Int32} {a : Nat} (s : Int32) : StP num (a + 1) s ↔ (StP num a s ∨ ∃ j, j < a ∧ s = jabs (num a - num j)) := by
  constructor
  · rintro ⟨i, j, h1, h2, h3⟩
    by_cases e : i = a
    · subst e; exact Or.inr ⟨j, h1, h3⟩
    · exact Or.inl ⟨i, j, h1, by omega, h3⟩
  · rintro (⟨i, j, h1, h2, h3⟩ | ⟨j, h1, h2⟩)
    · exact ⟨i, j, h1, by omega, h3⟩
    · exact ⟨a, j, h1, by omega, h2⟩
theorem lsB_ok {num : Nat → Int32} {b t : Int32} {a : Nat} (hs : ∀ i j, ¬ jabs (num i - num j) = -1) (h : LsOK b (StP num a) t) : ∀ c, LsOK b (fun s => StP num a s ∨ ∃ j, j < c ∧ s = jabs (num a - num j)) (lsB num b a t c)
  | 0 => h.iff (fun s => ⟨Or.inl, fun q => q.elim id (fun ⟨j, hj, _⟩ => by omega)⟩)
  | c + 1 => (lsS_ok (lsB_ok hs h c) (hs a c)).iff (fun s => (StP_split s).symm)
theorem lsA_ok {num : Nat → Int32} {b : Int32} (hs : ∀ i j, ¬ jabs (num i - num j) = -1) : ∀ n, LsOK b (StP num n) (lsA num b n)
  | 0 => Or.inl ⟨rfl, fun s ⟨i, j, h1, h2, _⟩ => by omega⟩
  | a + 1 => (lsB_ok hs (lsA_ok hs a) a).iff (fun s => (StP_succ s).symm)
def RwOK (nu : Int32 → Nat) (D : Int32 → Prop) (t : Nat × Int32) : Prop := (t = (0, -1) ∧ ∀ s, D s → s = 0 ∨ nu s = 0) ∨ (D t.2 ∧ ¬ t.2 = 0 ∧ 0 < t.1 ∧ nu t.2 = t.1 ∧ ∀ s, D s → s = 0 ∨ nu s < t.1 ∨ (nu s = t.1 ∧ t.2 ≤ s))
theorem RwOK.iff {nu : Int32 → Nat} {t : Nat × Int32} {D F : Int32 → Prop} (h : ∀ s, D s ↔ F s) (hl : RwOK nu D t) : RwOK nu F t := by
  have : D = F := funext fun s => propext (h s)
  rw [← this]; exact hl
theorem le_rf (x : Int32) : x ≤ x := by rw [leI]; omega
theorem rwS_ok {nu : Int32 → Nat} {s : Int32} {t : Nat × Int32} {D : Int32 → Prop} (h : RwOK nu D t) (hs : 0 ≤ s.toInt) : RwOK nu (fun x => D x ∨ x = s) (rwS nu s t) := by
  unfold rwS
  by_cases c0 : s = 0
  · rw [if_pos c0]
    rcases h with ⟨h1, h2⟩ | ⟨h1, h2, h3, h4, h5⟩
    · exact Or.inl ⟨h1, fun x hx => hx.elim (h2 x) (fun e => Or.inl (e.trans c0))⟩
    · exact Or.inr ⟨Or.inl h1, h2, h3, h4, fun x hx => hx.elim (h5 x) (fun e => Or.inl (e.trans c0))⟩
  · rw [if_neg c0]
    rcases h with ⟨h1, h2⟩ | ⟨h1, h2, h3, h4, h5⟩
    · rw [h1]
      rw [if_neg (show ¬ nu s < 0 by omega)]
      have hlt : ¬ s < -1 := by rw [ltI]; have : (-1 : Int32).toInt = -1 := rfl; omega
      by_cases c1 : nu s = 0
      · rw [if_pos ⟨c1, hlt⟩]
        exact Or.inl ⟨rfl, fun x hx => hx.elim (h2 x) (fun e => Or.inr (e ▸ c1))⟩
      · rw [if_neg (fun q => c1 q.1)]
        refine Or.inr ⟨Or.inr rfl, c0, Nat.pos_of_ne_zero c1, rfl, fun x hx => hx.elim (fun q => (h2 x q).imp id (fun e => Or.inl ?_)) (fun e => Or.inr (Or.inr ⟨by rw [e], by rw [e]; exact le_rf s⟩))⟩
        rw [e]; exact Nat.pos_of_ne_zero c1
    · by_cases c1 : nu s < t.1
      · rw [if_pos c1]
        exact Or.inr ⟨Or.inl h1, h2, h3, h4, fun x hx => hx.elim (h5 x) (fun e => Or.inr (Or.inl (e ▸ c1)))⟩
      · rw [if_neg c1]
        by_cases c2 : nu s = t.1 ∧ ¬ s < t.2
        · rw [if_pos c2]
          exact Or.inr ⟨Or.inl h1, h2, h3, h4, fun x hx => hx.elim (h5 x) (fun e => Or.inr (Or.inr ⟨e ▸ c2.1, by rw [e, leI]; have := c2.2; rw [ltI] at this; omega⟩))⟩
        · rw [if_neg c2]
          refine Or.inr ⟨Or.inr rfl, c0, (show 0 < nu s by omega), rfl, fun x hx => hx.elim (fun q => (h5 x q).imp id (fun q2 => ?_)) (fun e => Or.inr (Or.inr ⟨by rw [e], by rw [e]; exact le_rf s⟩))⟩
          show nu x < nu s ∨ (nu x = nu s ∧ s ≤ x)
          rcases q2 with q2 | ⟨q2, q3⟩
          · exact Or.inl (by omega)
          · by_cases c3 : nu s = t.1
            · have c4 : s < t.2 := Classical.byContradiction fun q => c2 ⟨c3, q⟩
              exact Or.inr ⟨by omega, le_tr (by rw [leI]; rw [ltI] at c4; omega) q3⟩
            · exact Or.inl (by omega)
theorem rwB_ok {nu : Int32 → Nat} {num : Nat → Int32} {t : Nat × Int32} {a : Nat} (hs : ∀ i j, 0 ≤ (jabs (num i - num j)).toInt) (h : RwOK nu (StP num a) t) : ∀ c, RwOK nu (fun s => StP num a s ∨ ∃ j, j < c ∧ s = jabs (num a - num j)) (rwB nu num a t c)
  | 0 => h.iff (fun s => ⟨Or.inl, fun q => q.elim id (fun ⟨j, hj, _⟩ => by omega)⟩)
  | c + 1 => (rwS_ok (rwB_ok hs h c) (hs a c)).iff (fun s => (StP_split s).symm)
theorem rwA_ok {nu : Int32 → Nat} {num : Nat → Int32} (hs : ∀ i j, 0 ≤ (jabs (num i - num j)).toInt) : ∀ n, RwOK nu (StP num n) (rwA nu num n)
  | 0 => Or.inl ⟨rfl, fun s ⟨i, j, h1, h2, _⟩ => by omega⟩
  | a + 1 => (rwB_ok hs (rwA_ok hs a) a).iff (fun s => (StP_succ s).symm)
theorem RwOK.uniq {nu : Int32 → Nat} {D : Int32 → Prop} {t u : Nat × Int32} (h : RwOK nu D t) (g : RwOK nu D u) : t = u := by
  rcases h with ⟨h1, h2⟩ | ⟨h1, h2, h3, h4, h5⟩
  · rcases g with ⟨g1, g2⟩ | ⟨g1, g2, g3, g4, g5⟩
    · rw [h1, g1]
    · rcases h2 _ g1 with q | q
      · exact absurd q g2
      · omega
  · rcases g with ⟨g1, g2⟩ | ⟨g1, g2, g3, g4, g5⟩
    · rcases g2 _ h1 with q | q
      · exact absurd q h2
      · omega
    · have a1 := (h5 _ g1).resolve_left g2
      have a2 := (g5 _ h1).resolve_left h2
      have e1 : t.1 = u.1 := by omega
      have e2 : t.2 = u.2 := by
        have b1 : t.2 ≤ u.2 := (a1.resolve_left (by omega)).2
        have b2 : u.2 ≤ t.2 := (a2.resolve_left (by omega)).2
        rw [leI] at b1 b2
        rw [eqI]; omega
      exact Prod.ext e1 e2
/-! how many edges, how many pairs at most -/
def edN (E : Nat → Nat → Bool) (n : Nat) : Nat := sumN (fun a => cntB (E a) a) n
theorem cntB_pos {p : Nat → Bool} {n u : Nat} (hu : u < n) (h : p u = true) : 1 ≤ cntB p n := by
  refine Nat.pos_of_ne_zero fun e => ?_
  rw [cntB_0, anyB_f] at e
  rw [e u hu] at h; cases h
theorem mxF_edges {E : Nat → Nat → Bool} (hE : ∀ u v, E u v = E v u) : ∀ n S, mxF E n S ≤ edN E n
  | 0, S => by simp [mxF]
  | n + 1, S => by
    have ih := mxF_edges hE n
    have e : edN E (n + 1) = edN E n + cntB (E n) n := rfl
    rw [e]
    simp only [mxF]
    have h1 := ih S
    have h2 : maxN (fun u => 1 + mxF E n (fun i => S i && decide (i ≠ u))) (fun u => S u && E u n) n ≤ edN E n + cntB (E n) n := by
      refine Nat.le_of_not_lt fun hlt => ?_
      obtain ⟨u, hu, hp, hf⟩ := maxN_iff.mp hlt
      rw [Bool.and_eq_true] at hp
      have h3 := cntB_pos (p := E n) hu (by rw [hE]; exact hp.2)
      have h4 := ih (fun i => S i && decide (i ≠ u))
      omega
    split <;> omega
theorem cntB_dropT {S T : Nat → Bool} {u : Nat} (hT : ∀ i, T i = (S i && decide (i ≠ u))) : ∀ n : Nat, cntB T n + (if u < n ∧ S u = true then 1 else 0) = cntB S n
  | 0 => by simp [cntB]
  | n + 1 => by
    have ih := cntB_dropT hT n
    simp only [cntB]
    by_cases e : n = u
    · subst e
      rw [if_neg (show ¬ (n < n ∧ S n = true) by omega)] at ih
      have hTn : T n = false := by rw [hT]; simp
      rw [hTn]
      by_cases hs : S n = true
      · rw [if_pos (show n < n + 1 ∧ S n = true from ⟨by omega, hs⟩), if_pos hs]; simp; omega
      · rw [if_neg (show ¬ (n < n + 1 ∧ S n = true) from fun q => hs q.2), if_neg hs]; simp; omega
    · have e1 : (u < n + 1 ∧ S u = true) ↔ (u < n ∧ S u = true) := by
        constructor
        · rintro ⟨h1, h2⟩; exact ⟨by omega, h2⟩
        · rintro ⟨h1, h2⟩; exact ⟨by omega, h2⟩
      have hTn : T n = S n := by rw [hT, decide_eq_true e, Bool.and_true]
      rw [hTn]
      simp only [e1]
      omega
theorem cntB_drop {S : Nat → Bool} {u n : Nat} : cntB (fun i => S i && decide (i ≠ u)) n + (if u < n ∧ S u = true then 1 else 0) = cntB S n := cntB_dropT (fun _ => rfl) n
theorem mxF_half {E : Nat → Nat → Bool} : ∀ n S, 2 * mxF E n S ≤ cntB S n
  | 0, S => by simp [mxF]
  | n + 1, S => by
    have ih := mxF_half (E := E) n
    simp only [mxF, cntB]
    have h1 := ih S
    by_cases hS : S n = true
    · rw [if_pos hS, if_pos hS]
      have h2 : ∀ k, k + 1 ≤ maxN (fun u => 1 + mxF E n (fun i => S i && decide (i ≠ u))) (fun u => S u && E u n) n → 2 * (k + 1) ≤ cntB S n + 1 := by
        intro k hlt
        obtain ⟨u, hu, hp, hf⟩ := maxN_iff.mp hlt
        rw [Bool.and_eq_true] at hp
        have h4 := ih (fun i => S i && decide (i ≠ u))
        have h5 := cntB_drop (S := S) (u := u) (n := n)
        rw [if_pos ⟨hu, hp.1⟩] at h5
        omega
      generalize maxN (fun u => 1 + mxF E n (fun i => S i && decide (i ≠ u))) (fun u => S u && E u n) n = m at h2
      rcases Nat.eq_zero_or_pos m with h0 | h0
      · subst h0; omega
      · have := h2 (m - 1) (by omega); omega
    · rw [if_neg hS, if_neg hS]; omega
theorem nuF_half {L : List Int32} {fr to_ : Int32} : nuF L fr to_ ≤ L.length / 2 := by
  have h := mxF_half (E := edB (numL L) fr to_) L.length (fun _ => true)
  have h2 := cntB_le (fun _ => true) L.length
  unfold nuF
  omega
theorem nuF_edges {L : List Int32} (hr : ∀ x ∈ L, rg x 0 10000000) {fr to_ : Int32} : nuF L fr to_ ≤ edN (edB (numL L) fr to_) L.length := mxF_edges (edB_sym hr fr to_) _ _
theorem cntB_mono {p q : Nat → Bool} : ∀ {n : Nat}, (∀ x, x < n → p x = true → q x = true) → cntB p n ≤ cntB q n
  | 0, _ => Nat.le_refl _
  | n + 1, h => by
    have ih := cntB_mono (p := p) (q := q) (n := n) (fun x hx => h x (by omega))
    have h1 := h n (by omega)
    simp only [cntB]
    cases hp : p n with
    | false => simp; omega
    | true => rw [h1 hp]; simp; omega
theorem cntB_strict {p q : Nat → Bool} : ∀ {n u : Nat}, u < n → p u = false → q u = true → (∀ x, x < n → p x = true → q x = true) → cntB p n + 1 ≤ cntB q n
  | 0, u, hu, _, _, _ => by omega
  | n + 1, u, hu, h1, h2, h => by
    simp only [cntB]
    by_cases e : u = n
    · subst e
      have ih := cntB_mono (p := p) (q := q) (n := u) (fun x hx => h x (by omega))
      rw [h1, h2]; simp; omega
    · have ih := cntB_strict (p := p) (q := q) (n := n) (u := u) (by omega) h1 h2 (fun x hx => h x (by omega))
      have h3 := h n (by omega)
      cases hp : p n with
      | false => simp; omega
      | true => rw [h3 hp]; simp; omega
/-- how many pairs are less than a step apart -/
def cuN (num : Nat → Int32) (b : Int32) (n : Nat) : Nat := edN (fun i j => decide (jabs (num i - num j) < b)) n
theorem edN_mono {E F : Nat → Nat → Bool} : ∀ {n : Nat}, (∀ i j, E i j = true → F i j = true) → edN E n ≤ edN F n
  | 0, _ => Nat.le_refl _
  | n + 1, h => by
    have ih := edN_mono (n := n) h
    have h1 := cntB_mono (p := E n) (q := F n) (n := n) (fun x _ => h n x)
    show edN E n + cntB (E n) n ≤ edN F n + cntB (F n) n
    omega
theorem edN_strict {E F : Nat → Nat → Bool} : ∀ {n i j : Nat}, j < i → i < n → E i j = false → F i j = true → (∀ i j, E i j = true → F i j = true) → edN E n + 1 ≤ edN F n
  | 0, i, j, _, hi, _, _, _ => by omega
  | n + 1, i, j, hj, hi, h1, h2, h => by
    show edN E n + cntB (E n) n + 1 ≤ edN F n + cntB (F n) n
    by_cases e : i = n
    · subst e
      have ih := edN_mono (n := i) h
      have := cntB_strict (p := E i) (q := F i) hj h1 h2 (fun x _ => h i x)
      omega
    · have ih := edN_strict (n := n) (i := i) hj (by omega) h1 h2 h
      have h3 := cntB_mono (p := E n) (q := F n) (n := n) (fun x _ => h n x)
      omega
theorem edN_45 {E : Nat → Nat → Bool} {n : Nat} (hn : n ≤ 10) : edN E n ≤ 45 := by
  have h1 : ∀ n, 2 * edN E n + n ≤ n * n := by
    intro n
    induction n with
    | zero => simp [edN, sumN]
    | succ n ih =>
      have h2 := cntB_le (E n) n
      have h3 : edN E (n + 1) = edN E n + cntB (E n) n := rfl
      have e1 : (n + 1) * (n + 1) = n * (n + 1) + (n + 1) := Nat.succ_mul n (n + 1)
      have e2 : n * (n + 1) = n * n + n := Nat.mul_succ n n
      rw [h3, e1, e2]
      omega
  have h2 := h1 n
  have h3 : n * n ≤ 10 * n := Nat.mul_le_mul_right n hn
  have h4 : n * n ≤ 10 * n := h3
  rcases Nat.lt_or_ge n 10 with q | q
  · have : n * n ≤ 9 * n := Nat.mul_le_mul_right n (by omega)
    omega
  · have : n = 10 := by omega
    subst this; omega
theorem cu_step {num : Nat → Int32} {n : Nat} {s t : Int32} (hs : StP num n s) (h : s < t) : cuN num s n + 1 ≤ cuN num t n := by
  obtain ⟨i, j, h1, h2, h3⟩ := hs
  refine edN_strict h1 h2 ?_ ?_ (fun a b q => ?_)
  · rw [← h3]; exact decide_eq_false (by rw [ltI]; omega)
  · rw [← h3]; exact decide_eq_true h
  · have q := of_decide_eq_true q
    exact decide_eq_true (by rw [ltI] at *; omega)
theorem cu_44 {num : Nat → Int32} {n : Nat} {s : Int32} (hn : n ≤ 10) (hs : StP num n s) : cuN num s n < 45 := by
  have h1 : edN (fun i j => decide (jabs (num i - num j) < s)) n + 1 ≤ edN (fun _ _ => true) n := by
    obtain ⟨i, j, h1, h2, h3⟩ := hs
    exact edN_strict h1 h2 (by rw [← h3]; exact decide_eq_false (by rw [ltI]; omega)) rfl (fun _ _ _ => rfl)
  have h2 := edN_45 (E := fun _ _ => true) hn
  unfold cuN
  omega
theorem s_C_putPartners {post : Int32 → Mem → Prop} {fr to_ : Int32} (hN : NuC M L) (hlen : L.length ≤ 10)
    (h : ∀ M', (∀ c, c ≠ 82 → M' c = M c) → (∀ i, i < L.length → M' 82 i = bitF (edB (numL L) fr to_ i) i) → post (nI (edN (edB (numL L) fr to_) L.length)) M') : P_Rows_putPartners post fr to_ M := by
  have hEi : ∀ i j, edB (numL L) fr to_ i j = inb (jabs (numL L i - numL L j)) fr to_ := fun _ _ => rfl
  generalize edB (numL L) fr to_ = E at h hEi
  have key : ∃ j, ∀ M', (∀ c, c ≠ 82 → M' c = M c) → (∀ i, i < 0 → M' 82 i = bitF (E i) i) → P_Rows_putPartners_5 post j fr to_ (nI (edN E 0)) (nI 0) M' := by
    refine lpN (R := fun j a => ∀ M', (∀ c, c ≠ 82 → M' c = M c) → (∀ i, i < a → M' 82 i = bitF (E i) i) → P_Rows_putPartners_5 post j fr to_ (nI (edN E a)) (nI a) M') (N := L.length) (fun j M' f' t' => brSt (by rw [f' 80 (by omega)]; exact hN.1) (h M' f' t')) (fun j a ha ih M' f' t' => brGo (by rw [f' 80 (by omega)]; exact hN.1) (by omega) ha ⟨vin_nI (by omega) (by omega), fun M1 e1 => ?_⟩)
    rw [nI_clamp (by omega)] at e1
    have inner : ∃ q, ∀ M', (∀ c, c ≠ 82 → M' c = M c) → (∀ i, i < a → M' 82 i = bitF (E i) i) → M' 82 a = bitF (E a) 0 → P_Rows_putPartners_25 post (P_Rows_putPartners_5 post j) q fr to_ (nI (edN E a + cntB (E a) 0)) (nI a) (nI 0) M' := by
      refine lpN (R := fun q c => ∀ M', (∀ c, c ≠ 82 → M' c = M c) → (∀ i, i < a → M' 82 i = bitF (E i) i) → M' 82 a = bitF (E a) c → P_Rows_putPartners_25 post (P_Rows_putPartners_5 post j) q fr to_ (nI (edN E a + cntB (E a) c)) (nI a) (nI c) M') (N := a) (fun q M' f' t' u' => brSt rfl ?_) (fun q c hc ih2 M' f' t' u' => brGo rfl (by omega) hc ⟨vin_nI (by omega) (by omega), vin_nI (by omega) (by omega), s_abs (s_R_within ?_)⟩)
      · rw [nI_1]
        refine ih M' f' (fun i hi => ?_)
        by_cases e : i = a
        · rw [e]; exact u'
        · exact t' i (by omega)
      · rw [nI_clamp (by omega), nI_clamp (by omega), f' 81 (by omega), hN.2 a ha, hN.2 c (by omega), ← hEi]
        refine b0n (fun c1 => ?_) (fun c1 => ⟨vin_nI (by omega) (by omega), vin_nI (by omega) (by omega), fun M3 e3 => ?_⟩)
        · unfold P_Rows_putPartners_75
          rw [nI_1]
          have ih2 := ih2 M' f' t' (by rw [u']; simp only [bitF, c1, Bool.false_eq_true, if_false])
          simp only [cntB, c1, Bool.false_eq_true, if_false, Nat.add_zero] at ih2
          exact ih2
        · unfold P_Rows_putPartners_75
          rw [u'] at e3
          rw [nI_1, nI_1]
          have ih2 := ih2 M3 (fun d hd => by rw [e3, ms_off _ _ _ hd]; exact f' d hd) (fun i hi => by rw [e3, ms_ne _ _ _ (by omega)]; exact t' i hi) (by rw [e3, ms_at]; simp only [bitF, c1, if_true])
          simp only [cntB, c1, if_true] at ih2
          exact ih2
    obtain ⟨q, hq⟩ := inner
    exact ⟨q, hq M1 (fun d hd => by rw [e1, ms_off _ _ _ hd]; exact f' d hd) (fun i hi => by rw [e1, ms_ne _ _ _ (by omega)]; exact t' i hi) (by rw [e1, ms_at]; rfl)⟩
  obtain ⟨j, hj⟩ := key
  exact ⟨j, hj M (fun _ _ => rfl) (fun i hi => by omega)⟩
theorem s_C_arrange {post : Mem → Prop} {off : Int32} (hN : NuC M L) (hlen : L.length ≤ 10) (hr : ∀ x ∈ L, rg x 0 10000000) (h : ∀ M', FrW M M' → M' 80 6 = nI (rwL L off).1 → M' 80 7 = (rwL L off).2 → post M') : P_Rows_arrange post off M := by
  have e0 : (0 : Int32).toInt = 0 := rfl
  have e1 : (-1 : Int32).toInt = -1 := rfl
  have hs : ∀ i j, 0 ≤ (jabs (numL L i - numL L j)).toInt := fun i j => by
    have h1 := numL_rg hr i
    have h2 := numL_rg hr j
    unfold rg at h1 h2
    exact jabs_nn _ (by rw [subI (by omega) (by omega)]; omega)
  have hs1 : ∀ i j, ¬ jabs (numL L i - numL L j) = -1 := fun i j e => by
    have := hs i j
    rw [e] at this; omega
  have hfin : RwOK (fun s => nuF L s (s + off)) (StP (numL L) L.length) (rwL L off) := rwA_ok hs _
  have hhalf : ∀ s, nuF L s (s + off) ≤ L.length / 2 := fun s => nuF_half
  have hedge : ∀ s, nuF L s (s + off) ≤ edN (edB (numL L) s (s + off)) L.length := fun s => nuF_edges hr
  have hpos : ∀ s, StP (numL L) L.length s → 0 ≤ s.toInt := fun s ⟨i, j, _, _, e⟩ => e ▸ hs i j
  have hcu : ∀ s, StP (numL L) L.length s → cuN (numL L) s L.length < 45 := fun s q => cu_44 hlen q
  generalize hnu : (fun s => nuF L s (s + off)) = nu at hfin
  have hnus : ∀ s, nuF L s (s + off) = nu s := fun s => by rw [← hnu]
  have hhalf : ∀ s, nu s ≤ L.length / 2 := fun s => by rw [← hnus]; exact hhalf s
  generalize rwL L off = res at h hfin
  intro M1 m1 M2 m2
  have f2 : FrW M M2 := by rw [m2, m1]; exact ((FrW.refl M).put (by omega) _).put (by omega) _
  have hN2 : NuC M2 L := ⟨by rw [m2, ms_ne _ _ _ (by omega), m1, ms_ne _ _ _ (by omega)]; exact hN.1, fun k hk => by rw [m2, ms_off _ _ _ (by omega), m1, ms_off _ _ _ (by omega)]; exact hN.2 k hk⟩
  have p2 : M2 80 6 = nI 0 := by rw [m2, ms_ne _ _ _ (by omega), m1, ms_at]; rfl
  have b2 : M2 80 7 = -1 := by rw [m2, ms_at]
  refine s_C_leastStep hN2 hlen ?_
  have hls := lsA_ok (b := 0) hs1 L.length
  generalize lsA (numL L) 0 L.length = x0 at hls
  have key : ∃ j, ∀ M' x2 P B, FrW M M' → NuC M' L → M' 80 6 = nI P → M' 80 7 = B → RwOK nu (fun s => StP (numL L) L.length s ∧ (x2 = -1 ∨ s < x2)) (P, B) → (x2 = -1 ∨ (StP (numL L) L.length x2 ∧ 0 < x2.toInt ∧ 0 ≤ cuN (numL L) x2 L.length)) → P_Rows_arrange_18 post j off x2 (nI 0) M' := by
    refine lpN (R := fun j i => ∀ M' x2 P B, FrW M M' → NuC M' L → M' 80 6 = nI P → M' 80 7 = B → RwOK nu (fun s => StP (numL L) L.length s ∧ (x2 = -1 ∨ s < x2)) (P, B) → (x2 = -1 ∨ (StP (numL L) L.length x2 ∧ 0 < x2.toInt ∧ i ≤ cuN (numL L) x2 L.length)) → P_Rows_arrange_18 post j off x2 (nI i) M') (N := 45) (fun j M' x2 P B f' n' p' b' hR hx => ?_) (fun j i hi ih M' x2 P B f' n' p' b' hR hx => ?_)
    · have hx1 : x2 = -1 := by
        rcases hx with q | ⟨q1, _, q3⟩
        · exact q
        · have := hcu x2 q1; omega
      have e := RwOK.uniq (hR.iff (F := StP (numL L) L.length) (fun s => ⟨fun q => q.1, fun q => ⟨q, Or.inl hx1⟩⟩)) hfin
      refine ⟨fun _ => h M' f' (by rw [p', ← e]) (by rw [b', ← e]), fun c => absurd (show (45 : Int32) ≤ nI 45 by decide) c⟩
    · have done : RwOK nu (StP (numL L) L.length) (P, B) → post M' := fun q => by
        have e := RwOK.uniq q hfin
        exact h M' f' (by rw [p', ← e]) (by rw [b', ← e])
      have hP5 : P ≤ 5 := by
        rcases hR with ⟨q, _⟩ | ⟨_, _, _, q, _⟩
        · have : P = 0 := congrArg Prod.fst q
          omega
        · have h1 := hhalf B
          have q : nu B = P := q
          omega
      refine ⟨fun c => ?_, fun _ => ⟨fun c => done (hR.iff (fun s => ⟨fun q => q.1, fun q => ⟨q, Or.inl c⟩⟩)), fun c => ?_⟩⟩
      · rw [lit_nI 45, nI_le_iff (by omega) (by omega)] at c; omega
      obtain ⟨hxD, hx0, hxc⟩ := hx.resolve_left c
      have hR : RwOK nu (fun s => StP (numL L) L.length s ∧ s < x2) (P, B) := hR.iff (fun s => ⟨fun q => ⟨q.1, q.2.resolve_left c⟩, fun q => ⟨q.1, Or.inr q.2⟩⟩)
      rw [n'.1, lit_nI 2, nI_div (by omega) (by omega) (by omega), p', nI_le_iff (by omega) (by omega)]
      refine ⟨fun c2 => done ?_, fun c2 => s_C_putPartners n' hlen (fun M3 f3 t3 => ?_)⟩
      · rcases hR with ⟨q1, q2⟩ | ⟨q1, q2, q3, q4, q5⟩
        · have q0 : P = 0 := congrArg Prod.fst q1
          exact Or.inl ⟨q1, fun s _ => Or.inr (by have := hhalf s; omega)⟩
        · refine Or.inr ⟨q1.1, q2, q3, q4, fun s hsD => ?_⟩
          by_cases c3 : s < x2
          · exact q5 s ⟨hsD, c3⟩
          · have h1 := hhalf s
            show s = 0 ∨ nu s < P ∨ (nu s = P ∧ B ≤ s)
            have h2 : B ≤ s := by
              have := q1.2
              have : B < x2 := this
              rw [ltI] at this c3
              rw [leI]; omega
            by_cases c4 : nu s = P
            · exact Or.inr (Or.inr ⟨c4, h2⟩)
            · exact Or.inr (Or.inl (by omega))
      have f3' : FrW M M3 := fun d hd => by rw [f3 d (by omega)]; exact f' d hd
      have n3 : NuC M3 L := ⟨by rw [f3 80 (by omega)]; exact n'.1, fun k hk => by rw [f3 81 (by omega)]; exact n'.2 k hk⟩
      have p3 : M3 80 6 = nI P := by rw [f3 80 (by omega)]; exact p'
      have b3 : M3 80 7 = B := by rw [f3 80 (by omega)]; exact b'
      have adv : ∀ M4 P' B', FrW M M4 → NuC M4 L → M4 80 6 = nI P' → M4 80 7 = B' → RwOK nu (fun s => StP (numL L) L.length s ∧ s ≤ x2) (P', B') → P_Rows_arrange_91 post (P_Rows_arrange_18 post j) off x2 (nI i) M4 := by
        intro M4 P' B' f4 n4 p4 b4 hR4
        refine s_C_leastStep n4 hlen ?_
        have hy := lsA_ok (b := x2) hs1 L.length
        generalize lsA (numL L) x2 L.length = y at hy
        rw [nI_1]
        have hiff : ∀ s, (StP (numL L) L.length s ∧ s ≤ x2) ↔ (StP (numL L) L.length s ∧ (y = -1 ∨ s < y)) := by
          intro s
          constructor
          · intro q
            refine ⟨q.1, ?_⟩
            rcases hy with ⟨y1, y2⟩ | ⟨y1, y2, y3, y4⟩
            · exact Or.inl y1
            · right
              have := q.2
              rw [leI] at this y2
              rw [ltI]; omega
          · intro q
            refine ⟨q.1, ?_⟩
            rcases hy with ⟨y1, y2⟩ | ⟨y1, y2, y3, y4⟩
            · exact y2 s q.1
            · refine (y4 s q.1).resolve_right (fun z => ?_)
              have := q.2.resolve_left y3
              rw [ltI] at this
              rw [leI] at z; omega
        refine ih M4 y P' B' f4 n4 p4 b4 (hR4.iff hiff) ?_
        · rcases hy with ⟨y1, y2⟩ | ⟨y1, y2, y3, y4⟩
          · exact Or.inl y1
          · have hlt : x2 < y := by rw [leI] at y2; rw [ltI]; omega
            have := cu_step hxD hlt
            exact Or.inr ⟨y1, by rw [ltI] at hlt; omega, by omega⟩
      have keepR : nu x2 ≤ P → RwOK nu (fun s => StP (numL L) L.length s ∧ s ≤ x2) (P, B) := by
        intro hle
        have cs : ∀ s, s ≤ x2 → s < x2 ∨ s = x2 := fun s q => by rw [leI] at q; rw [ltI, eqI]; omega
        rcases hR with ⟨q1, q2⟩ | ⟨q1, q2, q3, q4, q5⟩
        · have q0 : P = 0 := congrArg Prod.fst q1
          exact Or.inl ⟨q1, fun s hq => (cs s hq.2).elim (fun z => q2 s ⟨hq.1, z⟩) (fun z => Or.inr (by rw [z]; omega))⟩
        · have hBx : B < x2 := q1.2
          refine Or.inr ⟨⟨q1.1, by show B ≤ x2; rw [leI]; rw [ltI] at hBx; omega⟩, q2, q3, q4, fun s hq => (cs s hq.2).elim (fun z => q5 s ⟨hq.1, z⟩) (fun z => ?_)⟩
          show s = 0 ∨ nu s < P ∨ (nu s = P ∧ B ≤ s)
          rw [z]
          by_cases c4 : nu x2 = P
          · exact Or.inr (Or.inr ⟨c4, by rw [leI]; rw [ltI] at hBx; omega⟩)
          · exact Or.inr (Or.inl (by omega))
      have newR : P < nu x2 → RwOK nu (fun s => StP (numL L) L.length s ∧ s ≤ x2) (nu x2, x2) := by
        intro hlt
        refine Or.inr ⟨⟨hxD, le_rf x2⟩, fun e => ?_, show 0 < nu x2 by omega, rfl, fun s hq => ?_⟩
        · have e : x2 = 0 := e
          rw [e] at hx0; omega
        · show s = 0 ∨ nu s < nu x2 ∨ (nu s = nu x2 ∧ x2 ≤ s)
          by_cases c4 : s = x2
          · rw [c4]; exact Or.inr (Or.inr ⟨rfl, le_rf x2⟩)
          · have c5 : s < x2 := by have := hq.2; rw [leI] at this; rw [eqI] at c4; rw [ltI]; omega
            rcases hR with ⟨q1, q2⟩ | ⟨q1, q2, q3, q4, q5⟩
            · exact (q2 s ⟨hq.1, c5⟩).imp id (fun z => Or.inl (by omega))
            · have q5 : s = 0 ∨ nu s < P ∨ (nu s = P ∧ B ≤ s) := q5 s ⟨hq.1, c5⟩
              exact q5.imp id (fun z => Or.inl (by omega))
      have cont : ∀ M4 k, FrW M M4 → NuC M4 L → M4 80 6 = nI P → M4 80 7 = B → k ≤ 10 → (k ≤ P → nu x2 ≤ P) → (¬ k ≤ P → k = nu x2) → P_Rows_arrange_69 post (P_Rows_arrange_18 post j) off x2 (nI i) (nI k) M4 := by
        intro M4 k f4 n4 p4 b4 hk hk1 hk2
        unfold P_Rows_arrange_69
        rw [p4, nI_le_iff (by omega) (by omega)]
        refine ⟨fun c4 => adv M4 P B f4 n4 p4 b4 (keepR (hk1 c4)), fun c4 M5 m5 M6 m6 => ?_⟩
        have ek := hk2 c4
        refine adv M6 k x2 (by rw [m6, m5]; exact (f4.put (by omega) _).put (by omega) _) ⟨?_, fun k hk => ?_⟩ ?_ ?_ (by rw [ek]; exact newR (by omega))
        · rw [m6, ms_ne _ _ _ (by omega), m5, ms_ne _ _ _ (by omega)]; exact n4.1
        · rw [m6, ms_off _ _ _ (by omega), m5, ms_off _ _ _ (by omega)]; exact n4.2 k hk
        · rw [m6, ms_ne _ _ _ (by omega), m5, ms_at]
        · rw [m6, ms_at]
      have h45 := edN_45 (E := edB (numL L) x2 (x2 + off)) hlen
      have hed := hedge x2
      rw [hnus] at hed
      have hh2 := hhalf x2
      rw [p3, nI_le_iff (by omega) (by omega)]
      refine ⟨fun c3 => cont M3 0 f3' n3 p3 b3 (by omega) (fun _ => by omega) (fun q => absurd (Nat.zero_le _) q), fun c3 => s_C_mostPairs n3 hlen hr t3 (fun M4 f4 => ?_)⟩
      rw [hnus]
      exact cont M4 (nu x2) (fun d hd => by rw [f4 d (by omega)]; exact f3' d hd) ⟨by rw [f4 80 (by omega)]; exact n3.1, fun k hk => by rw [f4 81 (by omega)]; exact n3.2 k hk⟩ (by rw [f4 80 (by omega)]; exact p3) (by rw [f4 80 (by omega)]; exact b3) (by omega) id (fun _ => rfl)
  obtain ⟨j, hj⟩ := key
  refine ⟨j, hj M2 x0 0 (-1) f2 hN2 p2 b2 (Or.inl ⟨rfl, fun s hq => Or.inl ?_⟩) ?_⟩
  · have hp := hpos s hq.1
    rcases hls with ⟨_, y2⟩ | ⟨_, _, y3, y4⟩
    · have := y2 s hq.1
      rw [leI] at this
      rw [eqI]; omega
    · rcases y4 s hq.1 with z | z
      · rw [leI] at z; rw [eqI]; omega
      · have := hq.2.resolve_left y3
        rw [ltI] at this; rw [leI] at z; omega
  · rcases hls with ⟨y1, _⟩ | ⟨y1, y2, y3, y4⟩
    · exact Or.inl y1
    · exact Or.inr ⟨y1, by rw [leI] at y2; omega, Nat.zero_le _⟩
theorem s_R_rows {post : Int32 → Mem → Prop} {ex : String → Mem → Prop} {p set off : Int32} {st : Bool} (hD : Dk 1 M w) (hI : WInv w) (hL : Lw M w) (hS : SpOK w (-1) 0 lo hi (nn (w 9)))
    (h : QX post ex M w [IOB, IAE] (qpw w p (inb off 0 999) (if st then (rwL (gaA w lo hi p set) off).2 else nI (rwL (gaA w lo hi p set) off).1))) : P_R_rows post ex p set off (bi st) M := by
  refine s_qpn' hD hI hL hS h (fun hp hp3 hw M1 hJ hpost => s_C_gather hJ hI hp3 hS (fun M3 f3 hL3 hN => ?_))
  rw [← hp] at hN
  have hlen := gaA_len w lo hi p set
  have hrg : ∀ x ∈ gaA w lo hi p set, rg x 0 10000000 := gaL_rg _ _ _ _
  refine s_C_arrange hN hlen hrg (fun M4 f4 a4 b4 => ?_)
  have hL4 : LwOK M4 w := hL3.sp (f4 63 (by omega)) (f4 65 (by omega)) (f4 66 (by omega)) (by rw [f4 67 (by omega), f4 68 (by omega)]; exact hL3.2.2.2.2)
  have hpost := hpost M4 (f3.trans f4.q) (Or.inr hL4)
  unfold P_R_rows_62
  rw [a4, b4]
  cases st with
  | false => exact ⟨fun _ => hpost, fun q => absurd rfl q⟩
  | true => exact ⟨fun q => absurd q (by decide), fun _ => hpost⟩
end ROWS
