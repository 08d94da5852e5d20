/-! A CLAIM, AND BOTH SIDES HOLD THE SAME -/
theorem JI.c0 {ext : List CD} {Mc M' Mm Mm2 : Mem} (h : JI ext Mc Mm) (hF : FrX Mc M') (hQ : ClQ Mm Mm2) (hr : ∀ k, k < 5165 → Mm2 1 k = Mm 1 k) (h24 : M' 84 8 = Mm2 0 24) : JI ext (ms M' 84 4 0) Mm2 := by
  obtain ⟨a1, a2, a3, ⟨n, a4, a5, a6⟩, a7, a8, a9, a10, a11, a12, a13, a14⟩ := h
  obtain ⟨q1, q2, q3, q4⟩ := hQ
  have f : ∀ c, (c < 84 ∨ c = 85 ∨ 89 ≤ c) → ms M' 84 4 0 c = Mc c := fun c hc => by rw [ms_off _ _ _ (by omega)]; exact hF.1 c hc
  unfold JI
  rw [q1, q2, q3, q4, ← h24, f 85 (by omega), f 0 (by omega), f 62 (by omega), f 31 (by omega)]
  refine ⟨(a1.off (fun c h1 h2 => f c (by omega))).ext (fun k hk => hr k (by omega)), a2.ext (fun k hk => hr k (by omega)), ?_, ⟨0, by omega, ms_at _ _ _ _, rfl⟩, a7, ms_ne _ _ _ (by omega), a9, fun e => ?_, ?_, a12, a13, a14⟩
  · exact a3.ag ⟨fun i hi => hr i (by omega), hr 6 (by omega), fun i _ hi => hr i (by omega)⟩ a2.nk.2 (fun c h1 h2 => f c (by omega))
  · obtain ⟨b1, b2, b3⟩ := a10 e
    exact ⟨b1.off (fun c h1 h2 => f c (by omega)), b2, b3.mv b2 (fun c h1 _ => f c (by omega)) (fun _ _ => rfl) (fun _ _ _ _ => rfl) rfl (fun _ _ h => h)⟩
  · exact a11.mv a2 (fun c h1 _ => f c (by omega)) (fun _ _ => rfl) (fun k _ _ hk => hr k hk) (hr 10 (by omega)) (fun _ _ h => h)
theorem exN_old {ext : List CD} {kn k : Nat} {d : CD} (h : (layC ++ ext)[k]? = some d) : (layC ++ exN ext kn)[k]? = some d := by
  unfold exN
  rw [← List.append_assoc, List.getElem?_append_left (List.getElem?_eq_some_iff.mp h).1]
  exact h
theorem exN_at (ext : List CD) (kn : Nat) : (layC ++ exN ext kn)[nC ext]? = some (4, 1, [some (nC ext + 1)]) := by
  unfold exN
  rw [← List.append_assoc, List.getElem?_append_right (by rw [nC_len]; exact Nat.le_refl _), nC_len, Nat.sub_self]
  rfl
theorem exN_at1 (ext : List CD) (kn : Nat) : (layC ++ exN ext kn)[nC ext + 1]? = some (0, kn, []) := by
  unfold exN
  rw [← List.append_assoc, List.getElem?_append_right (by rw [nC_len]; omega), nC_len, Nat.add_sub_cancel_left]
  rfl
theorem nC_exN (ext : List CD) (kn : Nat) : nC (exN ext kn) = nC ext + 2 := by
  unfold nC exN
  rw [List.length_append]
  show 89 + (ext.length + 2) = 89 + ext.length + 2
  omega
theorem exN_ly {ext : List CD} {kn : Nat} (h : LyOK ext) : LyOK (exN ext kn) := by
  intro k d hk
  have hl : k < nC ext + 2 := by
    have := (List.getElem?_eq_some_iff.mp hk).1
    rw [nC_len, nC_exN] at this
    exact this
  rw [nC_exN]
  by_cases c : k < nC ext
  · have hk2 : (layC ++ ext)[k]? = some d := by
      unfold exN at hk
      rw [← List.append_assoc, List.getElem?_append_left (by rw [nC_len]; exact c)] at hk
      exact hk
    exact ⟨fun j hj => Nat.lt_of_lt_of_le ((h k d hk2).1 j hj) (by omega), (h k d hk2).2⟩
  · rcases (show k = nC ext ∨ k = nC ext + 1 by omega) with rfl | rfl
    · rw [exN_at] at hk
      cases hk
      refine ⟨fun j hj => ?_, fun e => (by cases e)⟩
      simp only [List.mem_singleton, Option.some.injEq] at hj
      omega
    · rw [exN_at1] at hk
      cases hk
      exact ⟨fun j hj => (by cases hj), fun e => (by cases e)⟩
theorem JI.c1 {ext : List CD} {Mc M' Mm Mm2 : Mem} {u : Nat → Int32} {cd : List Nat} (h : JI ext Mc Mm) (hF : FrX Mc M') (hQ : ClQ Mm Mm2) (hlt : nn (Mm 1 10) < 6) (hlen : nC ext + 1 < 1000000)
    (hr : ∀ k, k < 5165 → k ≠ 10 → (k < 359 + 801 * nn (Mm 1 10) ∨ 359 + 801 * nn (Mm 1 10) + 801 ≤ k) → Mm2 1 k = Mm 1 k) (h10 : Mm2 1 10 = Mm 1 10 + 1) (hW : ClW (Mm2 1) (nn (Mm 1 10)) cd) (h24 : M' 84 8 = Mm2 0 24)
    (h4 : cd.length ≤ 400) (hty : tyR cd [] = some [true]) (hbd : ∀ x, x ∈ cd → x < 400000) (hu : ∀ j x, cd[j]? = some x → u j = nI x) :
    JI (exN ext cd.length) (ms (ms (meN (ms M' 84 4 0) ext u) 31 (Mm 1 10).toNatClampNeg (nI (nC ext))) 1 8 (Mm 1 10 + 1)) Mm2 := by
  obtain ⟨a1, a2, a3, ⟨n, a4, a5, a6⟩, a7, a8, a9, a10, a11, a12, a13, a14⟩ := h
  obtain ⟨q1, q2, q3, q4⟩ := hQ
  obtain ⟨k0, hk0, e10⟩ : ∃ k, k < 6 ∧ Mm 1 10 = nI k := ⟨_, hlt, a2.nc.1⟩
  have ek : nn (Mm 1 10) = k0 := by rw [e10, nn_nI (by omega)]
  have ec : (Mm 1 10).toNatClampNeg = k0 := by rw [e10]; exact nI_clamp (by omega)
  rw [ek] at hr hW
  rw [ec]
  have hn89 : 89 ≤ nC ext := by unfold nC; omega
  have hm : ∀ c, c ≠ nC ext + 1 → meN (ms M' 84 4 0) ext u c = ms M' 84 4 0 c := fun c hc => by unfold meN; rw [if_neg hc]
  have hmu : meN (ms M' 84 4 0) ext u (nC ext + 1) = u := by unfold meN; rw [if_pos rfl]
  have g : ∀ c, (c < 84 ∨ c = 85 ∨ 89 ≤ c) → c ≠ nC ext + 1 → meN (ms M' 84 4 0) ext u c = Mc c := fun c hc h1 => by rw [hm c h1, ms_off _ _ _ (by omega)]; exact hF.1 c hc
  have n84 : ∀ j, j ≠ 4 → meN (ms M' 84 4 0) ext u 84 j = M' 84 j := fun j hj => by rw [hm 84 (by omega)]; exact ms_ne _ _ _ hj
  have n844 : meN (ms M' 84 4 0) ext u 84 4 = 0 := by rw [hm 84 (by omega)]; exact ms_at _ _ _ _
  generalize meN (ms M' 84 4 0) ext u = N0 at hm hmu g n84 n844 ⊢
  generalize hNe : ms (ms N0 31 k0 (nI (nC ext))) 1 8 (Mm 1 10 + 1) = N
  have f : ∀ c, (c < 84 ∨ c = 85 ∨ 89 ≤ c) → c ≠ nC ext + 1 → c ≠ 1 → c ≠ 31 → N c = Mc c := fun c hc h1 h2 h3 => by rw [← hNe, ms_off _ _ _ h2, ms_off _ _ _ h3]; exact g c hc h1
  have f84 : N 84 = N0 84 := by rw [← hNe, ms_off _ _ _ (by omega), ms_off _ _ _ (by omega)]
  have fu : N (nC ext + 1) = u := by rw [← hNe, ms_off _ _ _ (by omega), ms_off _ _ _ (by omega)]; exact hmu
  have f31 : N 31 k0 = nI (nC ext) := by rw [← hNe, ms_off _ _ _ (by omega)]; exact ms_at _ _ _ _
  have f31n : ∀ k, k ≠ k0 → N 31 k = Mc 31 k := fun k hk => by rw [← hNe, ms_off _ _ _ (by omega), ms_ne _ _ _ hk, g 31 (by omega) (by omega)]
  have hw' : ∀ k, k < 359 → Mm2 1 k = upd (Mm 1) 10 (Mm 1 10 + 1) k := fun k hk => by
    by_cases e : k = 10
    · rw [e, upd_eq]; exact h10
    · rw [upd_ne _ _ e]; exact hr k (by omega) e (Or.inl (by omega))
  have hDk : Dk 1 N (Mm2 1) := by
    rw [← hNe]
    have h0 : Dk 1 (ms N0 31 k0 (nI (nC ext))) (Mm 1) := a1.off (fun c h1 h2 => by rw [ms_off _ _ _ (by omega)]; exact g c (by omega) (by omega))
    exact (h0.put (i := 10) (c := 0) (s := 8) (by omega) rfl (Mm 1 10 + 1)).ext hw'
  have hWI : WInv (Mm2 1) := by
    have h0 : WInv (upd (Mm 1) 10 (Mm 1 10 + 1)) := wi_of (WI2.put (of_wi a2) (by omega) (by omega) (fun _ => rg_inc (m := 6) e10 hk0 (by omega)))
    exact h0.ext hw'
  have e11 : nn (Mm2 1 10) = k0 + 1 := by
    rw [h10, e10]
    rw [show nI k0 + 1 = nI (k0 + 1) from nI_add k0 1, nn_nI (by omega)]
  have hM : ∀ c, 89 ≤ c → c < nC ext → N c = Mc c := fun c h1 h2 => f c (by omega) (by omega) (by omega) (by omega)
  unfold JI
  rw [q1, q2, q3, q4, ← h24, f84, n844, n84 8 (by omega), f 85 (by omega) (by omega) (by omega) (by omega), f 0 (by omega) (by omega) (by omega) (by omega), f 62 (by omega) (by omega) (by omega) (by omega)]
  refine ⟨hDk, hWI, ?_, ⟨0, by omega, rfl, rfl⟩, a7, rfl, a9, fun e => ?_, ?_, ?_, ?_, exN_ly a14⟩
  · exact a3.ag ⟨fun i hi => hr i (by omega) (by omega) (Or.inl (by omega)), hr 6 (by omega) (by omega) (Or.inl (by omega)), fun i h1 hi => hr i (by omega) (by omega) (Or.inl (by omega))⟩ a2.nk.2 (fun c h1 h2 => f c (by omega) (by omega) (by omega) (by omega))
  · obtain ⟨b1, b2, b3⟩ := a10 e
    exact ⟨b1.off (fun c h1 h2 => f c (by omega) (by omega) (by omega) (by omega)), b2, b3.mv b2 hM (fun _ _ => rfl) (fun _ _ _ _ => rfl) rfl (fun _ _ h => exN_old h)⟩
  · intro i hi
    rw [e11] at hi
    by_cases e : i = k0
    · subst e
      exact ⟨cd, nC ext, hn89, by omega, f31, exN_at _ _, exN_at1 _ _, fun j x hj => by rw [fu]; exact hu j x hj, hW, h4, hty, hbd⟩
    · obtain ⟨cd2, h2⟩ := a11 i (by omega)
      exact ⟨cd2, h2.mv (by omega) hM (f31n i e) (fun k z1 z2 z3 z4 => hr k z2 (by omega) (Or.inl (by omega))) (fun _ _ h => exN_old h)⟩
  · intro k hk
    by_cases e : k = k0
    · refine Or.inr ⟨[some (nC ext + 1)], ?_⟩
      rw [e, f31, show (nI (nC ext)).toNatClampNeg = nC ext from nI_clamp (by omega)]
      exact exN_at _ _
    · rw [f31n k e]
      rcases a12 k hk with h1 | ⟨fl, h1⟩
      · exact Or.inl h1
      · exact Or.inr ⟨fl, exN_old h1⟩
  · intro k hk
    rcases a13 k hk with h1 | ⟨fl, h1⟩
    · exact Or.inl h1
    · exact Or.inr ⟨fl, exN_old h1⟩
def CMo (Mm : Mem) (L : Nat) (v : Int32) (Mm2 : Mem) : Prop := ClQ Mm Mm2 ∧
  (((txP (Mm 10) L).1 = false ∧ (∀ k, k < 5165 → Mm2 1 k = Mm 1 k) ∧ Mm2 0 24 = nI (txP (Mm 10) L).2.1 ∧ Mm2 0 0 = 1) ∨
   ((txP (Mm 10) L).1 = true ∧ nn (Mm 1 10) = 6 ∧ (∀ k, k < 5165 → Mm2 1 k = Mm 1 k) ∧ Mm2 0 24 = -1 ∧ Mm2 0 0 = 2) ∨
   ((txP (Mm 10) L).1 = true ∧ nn (Mm 1 10) < 6 ∧ v = Mm 1 10 ∧ (∀ k, k < 5165 → k ≠ 10 → (k < 359 + 801 * nn (Mm 1 10) ∨ 359 + 801 * nn (Mm 1 10) + 801 ≤ k) → Mm2 1 k = Mm 1 k) ∧ Mm2 1 10 = Mm 1 10 + 1 ∧ ClW (Mm2 1) (nn (Mm 1 10)) (txP (Mm 10) L).2.2 ∧ Mm2 0 24 = -1 ∧ Mm2 0 0 = 0))
def RK (g : GT) (ext : List CD) (Mm : Mem) (n : Nat) (k : Int32) (a : Nat → Nat) (ext1 : List CD) (Mc1 : Mem) (f1 : Nat → Int64) : Prop :=
  a 0 = ad g 0 ∧ nC ext1 ≤ nC ext + 2 ∧ ∀ v Mm1, CMo Mm n v Mm1 → JI ext1 Mc1 Mm1 ∧ Mm1 0 0 = k ∧ (k = 0 → f1 0 = v.toInt64)
theorem p_claim {g : GT} {ext : List CD} {Mc Mm : Mem} {f : Nat → Int64} {n : Nat} (hJ : JI ext Mc Mm) (hlen : nC ext + 1 < 1000000) (hn : n ≤ 400) (h4 : Mc 84 4 = nI n) : P_R_claim g ext (fun r a ext1 M1 => RK g ext Mm n 0 a ext1 M1 (vp_updL f 0 (cvI r))) (fun E M1 => (E = IAE ∧ RK g ext Mm n 1 (ad g) ext M1 f) ∨ (E = UOE ∧ RK g ext Mm n 2 (ad g) ext M1 f)) Mc := by
  have hD := hJ.1
  have hI := hJ.2.1
  have ht : Mc 85 = Mm 10 := hJ.2.2.2.2.1
  have h31 : CkR ext (Mc 31) := hJ.2.2.2.2.2.2.2.2.2.1
  have h62 : CkR ext (Mc 62) := hJ.2.2.2.2.2.2.2.2.2.2.1
  obtain ⟨k, hk, e10⟩ : ∃ k, k ≤ 6 ∧ Mm 1 10 = nI k := ⟨_, hI.nc.2, hI.nc.1⟩
  have ek : nn (Mm 1 10) = k := by rw [e10, nn_nI (by omega)]
  unfold P_R_claim
  refine s_C_readText (t := Mm 10) hn h4 ht (fun hok M' hF h7 hcd h8 => ?_) (fun hok M' hF h8 => ?_)
  · have h18 : ms M' 84 4 0 1 8 = Mm 1 10 := by rw [ms_off _ _ _ (by omega), hF.1 1 (by omega)]; exact hD.nc
    have h6 : (if (6 : Int32) ≤ ms M' 84 4 0 1 8 then (0 : Int32) else 1) = bi (decide (k < 6)) := by
      rw [h18, e10]
      rcases (show k = 0 ∨ k = 1 ∨ k = 2 ∨ k = 3 ∨ k = 4 ∨ k = 5 ∨ k = 6 by omega) with rfl | rfl | rfl | rfl | rfl | rfl | rfl <;> decide
    refine s_want (b := true) (fun _ => ?_) (fun z => (by cases z))
    show P_want _ _ _ (if (6 : Int32) ≤ ms M' 84 4 0 1 8 then (0 : Int32) else 1) _
    rw [h6]
    refine s_want (fun c => ?_) (fun c => ?_)
    · have hk6 : k < 6 := of_decide_eq_true c
      refine ⟨(txP (Mm 10) n).2.2.length, txP_len hn hok, by rw [ms_ne _ _ _ (by omega)]; exact h7, ?_, ?_, ?_, fun q q2 u hu => ?_⟩
      · rw [h18, e10]; exact vin_nI hk6 (by omega)
      · rw [ms_off _ _ _ (by omega), hF.1 31 (by omega)]; exact h31
      · rw [ms_off _ _ _ (by omega), hF.1 62 (by omega)]; exact h62
      · refine ⟨by unfold adN nC; rw [if_neg (by omega), if_neg (by omega)], by rw [nC_exN]; exact Nat.le_refl _, fun v Mm1 ho => ?_⟩
        rw [h18]
        obtain ⟨hQ, ⟨e, _⟩ | ⟨e, e2, _⟩ | ⟨e, e2, ev, r, r10, cw, z, t⟩⟩ := ho
        · rw [hok] at e; cases e
        · omega
        · refine ⟨hJ.c1 hF hQ e2 hlen r r10 cw (h8.trans z.symm) (txP_len hn hok) (ty_whole (b := rn (isSp (Mm 10)) n 0) hok) (fun x hx => bd_whole (kdT_ts hn) _ x hx) (fun j x hx => ?_), t, fun _ => ?_⟩
          · rw [hu j (List.getElem?_eq_some_iff.mp hx).1, ms_off _ _ _ (by omega)]
            exact hcd j x hx
          · rw [ev]; rfl
    · have hk6 : ¬ k < 6 := of_decide_eq_false c
      refine Or.inr ⟨rfl, rfl, Nat.le_add_right _ _, fun v Mm1 ho => ?_⟩
      obtain ⟨hQ, ⟨e, _⟩ | ⟨e, e2, r, z, t⟩ | ⟨e, e2, _⟩⟩ := ho
      · rw [hok] at e; cases e
      · exact ⟨hJ.c0 hF hQ r (h8.trans z.symm), t, fun z => absurd z (by decide)⟩
      · omega
  · refine s_want (b := false) (fun z => (by cases z)) (fun _ => Or.inl ⟨rfl, rfl, Nat.le_add_right _ _, fun v Mm1 ho => ?_⟩)
    obtain ⟨hQ, ⟨e, r, z, t⟩ | ⟨e, _⟩ | ⟨e, _⟩⟩ := ho
    · exact ⟨hJ.c0 hF hQ r (h8.trans z.symm), t, fun z => absurd z (by decide)⟩
    · rw [hok] at e; cases e
    · rw [hok] at e; cases e
def dxF (w : Nat → Int32) (p set : Int32) (t : Int) : Bool := exB w (fun r => I (edZ w (plZ w p t r) false)) (fun r => I (edZ w (plZ w p t r) true)) (nn p) set 0
theorem lkH_drift : Cond.methodLink RL 277 yL_drift ∈ GW := gw 1354 (by decide +kernel) (by decide +kernel)
theorem meM_drift : MeV yX12_drift cX12_drift 7 (some .int) 3 := ⟨⟨gw 116 (by decide +kernel) (by decide +kernel), gw 2061 (by decide +kernel) (by decide +kernel), by decide +kernel, by decide⟩, gw 2059 (by decide +kernel) (by decide +kernel), gw 2060 (by decide +kernel) (by decide +kernel)⟩
theorem lkM_drift : Cond.methodLink RL 279 yX12_drift ∈ GW := gw 2058 (by decide +kernel) (by decide +kernel)
theorem case_drift {X : FX} {g : GT} {cL : ClassId} {A : Nat → Prop} {sk : Nat → Nat} {sb L : Nat} {sx : Nat → Int32} {kc ks : Nat} {Z : State → Prop} {n : Nat} {aM aC : Nat → Nat} {ext : List CD} {Mc Mm : Mem} {ao : Nat} {f : Nat → Int64} (C : CxL X g cL A sk sb L sx) (hL : L ≤ 3072) (hn : n + 5 < L) (hk : kc + 80 ≤ 601024 ∧ ks + 480 ≤ 7293034) (hJ : JI ext Mc Mm) (K : NX X g cL A sb kc ks Z n aM aC ext ao) : AtN X (g.1, g.2.1) (WS g aM aC ext Mc Mm ao cL f) A 7 kc ks Z 2681 (lvB n ao (aM 0) (aC 0) sb) [] := by
  have hD := hJ.1
  have hI := hJ.2.1
  have hW := hJ.2.2.1
  have h : segB code 2681 [(.aload_n 1, 1), (.aload_n 0, 1), (.iload 4, 2), (.iconst 1, 1), (.iadd, 1), (.iaload, 1), (.aload_n 0, 1), (.iload 4, 2), (.iconst 2, 1), (.iadd, 1), (.iaload, 1), (.aload_n 0, 1), (.iload 4, 2), (.iconst 3, 1), (.iadd, 1), (.iaload, 1), (.ifCond .eq 7, 3), (.iconst 1, 1), (.goto 4, 3), (.iconst 0, 1), (.aload_n 3, 1), (.invokestatic 277, 3), (.istore 5, 2), (.aload_n 2, 1), (.aload_n 0, 1), (.iload 4, 2), (.iconst 1, 1), (.iadd, 1), (.iaload, 1), (.aload_n 0, 1), (.iload 4, 2), (.iconst 2, 1), (.iadd, 1), (.iaload, 1), (.aload_n 0, 1), (.iload 4, 2), (.iconst 3, 1), (.iadd, 1), (.iaload, 1), (.ifCond .eq 7, 3), (.iconst 1, 1), (.goto 4, 3), (.iconst 0, 1), (.invokevirtual 279, 3), (.istore 6, 2), (.aload_n 2, 1), (.invokevirtual 165, 3), (.iload 5, 2), (.if_icmp .eq 5, 3), (.iconst 0, 1), (.ireturn, 1), (.iload 5, 2), (.ifCond .ne 15, 3), (.aload_n 3, 1), (.iconst 0, 1), (.laload, 1), (.iload 6, 2), (.i2l, 1), (.lcmp, 1), (.ifCond .eq 5, 3), (.iconst 0, 1), (.ireturn, 1), (.goto 791, 3)] = true := by decide +kernel
  have hdx : inb (sx (n + 1)) 0 (Mm 1 8 - 1) = true → ∀ t lo hi, -30 ≤ t → t ≤ 30 → SpOK (Mm 1) (sx (n + 1)) t lo hi (nn (Mm 1 9)) → exB (Mm 1) lo hi (nn (sx (n + 1))) (sx (n + 2)) 0 = dxF (Mm 1) (sx (n + 1)) (sx (n + 2)) t := fun _ t lo hi _ _ hS => by unfold dxF; exact exB_c (fun r hr => hS r hr)
  obtain ⟨dx, h⟩ := seg1 h
  refine n_aload_n C.1.1 dx rfl ?_
  refine l_arg C h (n := n) (j := 1) rfl rfl (by decide) (by omega) hL (fun h => ?_)
  refine l_arg C h (n := n) (j := 2) rfl rfl (by decide) (by omega) hL (fun h => ?_)
  refine l_arg C h (n := n) (j := 3) rfl rfl (by decide) (by omega) hL (fun h => ?_)
  refine l_bool C h (fun h => ?_)
  obtain ⟨dx, h⟩ := seg1 h
  refine n_aload_n C.1.1 dx rfl ?_
  obtain ⟨dx, h⟩ := seg1 h
  refine l_stat C [.ref (aC 0), .int (sx (n + 1)), .int (sx (n + 2)), .int (bi (decide (¬ sx (n + 3) = 0))), .ref ao] mh_drift lkH_drift (hc_drift (g := gA g aC) (s_R_drift hD hI hW hdx (qx1 (cv := cvI) hW))) (by decide) rfl rfl (by decide) dx ⟨by omega, by omega⟩ (fun k Mc1 f1 hq => ?_)
  obtain ⟨dx, h⟩ := seg1 h
  refine n_istore C.1.1 dx (by decide) rfl ?_
  obtain ⟨dx, h⟩ := seg1 h
  refine n_aload_n C.1.1 dx rfl ?_
  refine l_arg C h (n := n) (j := 1) rfl rfl (by decide) (by omega) hL (fun h => ?_)
  refine l_arg C h (n := n) (j := 2) rfl rfl (by decide) (by omega) hL (fun h => ?_)
  refine l_arg C h (n := n) (j := 3) rfl rfl (by decide) (by omega) hL (fun h => ?_)
  refine l_bool C h (fun h => ?_)
  obtain ⟨dx, h⟩ := seg1 h
  refine l_R C [.int (sx (n + 1)), .int (sx (n + 2)), .int (bi (decide (¬ sx (n + 3) = 0)))] meM_drift lkM_drift (ct_M_drift (g := gA g aM) (s_M_drift hI hdx qrM)) (by decide) rfl rfl rfl (by decide) dx ⟨by omega, by omega⟩ (fun v Mm1 hv => ?_)
  obtain ⟨rfl, hF, hL1, rfl⟩ := hq
  obtain ⟨rfl, hS, e0⟩ := hv
  exact tailI C h (by decide) e0 fO_I ⟨by omega, by omega⟩ (n_to rfl (by omega) (by omega) (K aC ext Mc1 Mm1 _ rfl (hJ.q hF hL1 hS) (Nat.le_add_right _ _)))
theorem lkH_claim : Cond.methodLink RL 305 yL_claim ∈ GW := gw 1462 (by decide +kernel) (by decide +kernel)
theorem meM_claim : MeV yX12_claim cX12_claim 4 (some .int) 0 := ⟨⟨gw 116 (by decide +kernel) (by decide +kernel), gw 2128 (by decide +kernel) (by decide +kernel), by decide +kernel, by decide⟩, gw 2126 (by decide +kernel) (by decide +kernel), gw 2127 (by decide +kernel) (by decide +kernel)⟩
theorem lkM_claim : Cond.methodLink RL 307 yX12_claim ∈ GW := gw 2125 (by decide +kernel) (by decide +kernel)
theorem case_claim {X : FX} {g : GT} {cL : ClassId} {A : Nat → Prop} {sk : Nat → Nat} {sb L : Nat} {sx : Nat → Int32} {kc ks : Nat} {Z : State → Prop} {n : Nat} {aM aC : Nat → Nat} {ext : List CD} {Mc Mm : Mem} {ao : Nat} {f : Nat → Int64} (C : CxL X g cL A sk sb L sx) (hL : L ≤ 3072) (hn : n + 5 < L) (hk : kc + 80 ≤ 601024 ∧ ks + 480 ≤ 7293034) (hJ : JI ext Mc Mm) (K : NX X g cL A sb kc ks Z n aM aC ext ao) (hlen : nC ext + 1 < 1000000) : AtN X (g.1, g.2.1) (WS g aM aC ext Mc Mm ao cL f) A 7 kc ks Z 3384 (lvB n ao (aM 0) (aC 0) sb) [] := by
  have hD := hJ.1
  have hI := hJ.2.1
  obtain ⟨tl, h40, h84, h19⟩ := hJ.2.2.2.1
  have hly : LyOK ext := hJ.2.2.2.2.2.2.2.2.2.2.2
  have h : segB code 3384 [(.aload_n 1, 1), (.aload_n 3, 1), (.invokestatic 305, 3), (.istore 5, 2), (.aload_n 2, 1), (.invokevirtual 307, 3), (.istore 6, 2), (.aload_n 2, 1), (.invokevirtual 165, 3), (.iload 5, 2), (.if_icmp .eq 5, 3), (.iconst 0, 1), (.ireturn, 1), (.iload 5, 2), (.ifCond .ne 15, 3), (.aload_n 3, 1), (.iconst 0, 1), (.laload, 1), (.iload 6, 2), (.i2l, 1), (.lcmp, 1), (.ifCond .eq 5, 3), (.iconst 0, 1), (.ireturn, 1), (.goto 140, 3)] = true := by decide +kernel
  obtain ⟨dx, h⟩ := seg1 h
  refine n_aload_n C.1.1 dx rfl ?_
  obtain ⟨dx, h⟩ := seg1 h
  refine n_aload_n C.1.1 dx rfl ?_
  obtain ⟨dx, h⟩ := seg1 h
  refine h_statK (g9 := g) (g := gA g aC) (pre := wl (gA g aM) layM Mm) (st := []) C.1 rfl lkH_claim (hc_claim (g := gA g aC) (sk := sk) (ao := ao) (cL := cL) (f := f) hly (by omega) (p_claim (g := gA g aC) hJ hlen h40 h84)) (by decide) (by decide) dx ⟨by omega, by omega⟩ (fun k aC1 ext1 Mc1 f1 hq => ?_)
  refine n_ws (ws2 := WS g aM aC1 ext1 Mc1 Mm ao cL f1) rfl ?_
  obtain ⟨ea, en, hq⟩ := hq
  obtain ⟨dx, h⟩ := seg1 h
  refine n_istore C.1.1 dx (by decide) rfl ?_
  obtain ⟨dx, h⟩ := seg1 h
  refine n_aload_n C.1.1 dx rfl ?_
  obtain ⟨dx, h⟩ := seg1 h
  refine l_RS C [] meM_claim lkM_claim (ct_M_claim (g := gA g aM) (post := CMo Mm tl) (s_M_claim hI h19 h40 (fun e M9 q r z t => ⟨q, Or.inl ⟨e, r, z, t⟩⟩) (fun e e2 M9 q r z t => ⟨q, Or.inr (Or.inl ⟨e, e2, r, z, t⟩)⟩) (fun e e2 M9 q r r10 cw z t => ⟨q, Or.inr (Or.inr ⟨e, e2, rfl, r, r10, cw, z, t⟩)⟩))) (by decide) rfl rfl rfl (by decide) dx ⟨by omega, by omega⟩ (fun v Mm1 hv => ?_)
  obtain ⟨hJ1, e0, e1⟩ := hq v Mm1 hv
  have ea : aC1 0 = aC 0 := ea
  have KK := K aC1 ext1 Mc1 Mm1 f1 ea hJ1 en
  rw [← ea] at KK
  rw [← ea]
  exact tailI C h (by decide) e0 e1 ⟨by omega, by omega⟩ (n_to rfl (by omega) (by omega) KK)
theorem lkH_holds : Cond.methodLink RL 312 yL_holds ∈ GW := gw 1631 (by decide +kernel) (by decide +kernel)
theorem meM_holds : MeV yX12_holds cX12_holds 9 (some .boolean) 2 := ⟨⟨gw 116 (by decide +kernel) (by decide +kernel), gw 2211 (by decide +kernel) (by decide +kernel), by decide +kernel, by decide⟩, gw 2209 (by decide +kernel) (by decide +kernel), gw 2210 (by decide +kernel) (by decide +kernel)⟩
theorem lkM_holds : Cond.methodLink RL 314 yX12_holds ∈ GW := gw 2208 (by decide +kernel) (by decide +kernel)
theorem case_holds {X : FX} {g : GT} {cL : ClassId} {A : Nat → Prop} {sk : Nat → Nat} {sb L : Nat} {sx : Nat → Int32} {kc ks : Nat} {Z : State → Prop} {n : Nat} {aM aC : Nat → Nat} {ext : List CD} {Mc Mm : Mem} {ao : Nat} {f : Nat → Int64} (C : CxL X g cL A sk sb L sx) (hL : L ≤ 3072) (hn : n + 5 < L) (hk : kc + 80 ≤ 601024 ∧ ks + 480 ≤ 7293034) (hJ : JI ext Mc Mm) (K : NX X g cL A sb kc ks Z n aM aC ext ao) : AtN X (g.1, g.2.1) (WS g aM aC ext Mc Mm ao cL f) A 7 kc ks Z 3441 (lvB n ao (aM 0) (aC 0) sb) [] := by
  have hD := hJ.1
  have hI := hJ.2.1
  have hW := hJ.2.2.1
  have h : segB code 3441 [(.aload_n 1, 1), (.aload_n 0, 1), (.iload 4, 2), (.iconst 1, 1), (.iadd, 1), (.iaload, 1), (.aload_n 0, 1), (.iload 4, 2), (.iconst 2, 1), (.iadd, 1), (.iaload, 1), (.aload_n 3, 1), (.invokestatic 312, 3), (.istore 5, 2), (.aload_n 2, 1), (.aload_n 0, 1), (.iload 4, 2), (.iconst 1, 1), (.iadd, 1), (.iaload, 1), (.aload_n 0, 1), (.iload 4, 2), (.iconst 2, 1), (.iadd, 1), (.iaload, 1), (.invokevirtual 314, 3), (.istore 6, 2), (.aload_n 2, 1), (.invokevirtual 165, 3), (.iload 5, 2), (.if_icmp .eq 5, 3), (.iconst 0, 1), (.ireturn, 1), (.iload 5, 2), (.ifCond .ne 22, 3), (.aload_n 3, 1), (.iconst 0, 1), (.laload, 1), (.iload 6, 2), (.ifCond .eq 7, 3), (.lconst 1, 1), (.goto 4, 3), (.lconst 0, 1), (.lcmp, 1), (.ifCond .eq 5, 3), (.iconst 0, 1), (.ireturn, 1), (.goto 52, 3)] = true := by decide +kernel
  obtain ⟨cd, hcd⟩ : ∃ cd, inb (sx (n + 1)) 0 (Mm 1 10 - 1) = true → CkC ext Mc (Mc 31) (Mm 1) (nn (sx (n + 1))) cd := by
    by_cases e : inb (sx (n + 1)) 0 (Mm 1 10 - 1) = true
    · obtain ⟨cd, h9⟩ := hJ.2.2.2.2.2.2.2.2.1 (nn (sx (n + 1))) (hI.inc e).2.1
      exact ⟨cd, fun _ => h9⟩
    · exact ⟨[], fun z => absurd z e⟩
  have hcd2 : inb (sx (n + 1)) 0 (Mm 1 10 - 1) = true → ClW (Mm 1) (nn (sx (n + 1))) cd ∧ cd.length ≤ 400 ∧ tyR cd [] = some [true] := by
    intro e
    obtain ⟨k9, -, -, -, -, -, -, h7, h8, h9, -⟩ := hcd e
    exact ⟨h7, h8, h9⟩
  obtain ⟨dx, h⟩ := seg1 h
  refine n_aload_n C.1.1 dx rfl ?_
  refine l_arg C h (n := n) (j := 1) rfl rfl (by decide) (by omega) hL (fun h => ?_)
  refine l_arg C h (n := n) (j := 2) rfl rfl (by decide) (by omega) hL (fun h => ?_)
  obtain ⟨dx, h⟩ := seg1 h
  refine n_aload_n C.1.1 dx rfl ?_
  obtain ⟨dx, h⟩ := seg1 h
  refine l_stat C [.ref (aC 0), .int (sx (n + 1)), .int (sx (n + 2)), .ref ao] mh_holds lkH_holds (hi_all (spI (Mm 1)) (fun i => hc_holds (g := gA g aC) (s_R_holds hD hI hW i.2 hcd (qx1 (cv := cvZ) hW)))) (by decide) rfl rfl (by decide) dx ⟨by omega, by omega⟩ (fun k Mc1 f1 hq => ?_)
  obtain ⟨dx, h⟩ := seg1 h
  refine n_istore C.1.1 dx (by decide) rfl ?_
  obtain ⟨dx, h⟩ := seg1 h
  refine n_aload_n C.1.1 dx rfl ?_
  refine l_arg C h (n := n) (j := 1) rfl rfl (by decide) (by omega) hL (fun h => ?_)
  refine l_arg C h (n := n) (j := 2) rfl rfl (by decide) (by omega) hL (fun h => ?_)
  obtain ⟨dx, h⟩ := seg1 h
  refine l_R C [.int (sx (n + 1)), .int (sx (n + 2))] meM_holds lkM_holds (ct_M_holds (g := gA g aM) (s_M_holds hI hcd2 qsM)) (by decide) rfl rfl rfl (by decide) dx ⟨by omega, by omega⟩ (fun v Mm1 hv => ?_)
  obtain ⟨lo, hi, hS9, rfl, hS, e0⟩ := hv
  obtain ⟨M2, f2, ⟨e1, -, -, e2⟩, e3⟩ := hq.2 ⟨(lo, hi), hS9⟩
  obtain ⟨-, hF, hL1, -⟩ := hq.1
  refine tailZ C h (by decide) (e0.trans e1.symm) (fun e => ?_) ⟨by omega, by omega⟩ (n_to rfl (by omega) (by omega) (K aC ext Mc1 Mm1 _ rfl (hJ.q hF hL1 hS) (Nat.le_add_right _ _)))
  rw [← e3, e2]
  exact fO_Z (e1.symm.trans e)
