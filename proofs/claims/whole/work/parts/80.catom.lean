/-! THE CLASS READS A TEXT: atoms, the whole -/
section CATOM
variable {M0 : Mem} {L K : Nat} {t : Nat → Int32}
/-- a comparison, sure, may -/
theorem rdC_87 {RA : (Int32 → Mem → Prop) → Int32 → Mem → Prop} {post : Int32 → Mem → Prop} {M : Mem} {i : Nat} {c : List Nat} (hL4 : L ≤ 400) (hS : SgC M0 t L K) (hM : CR M0 K i c M) (hc4 : c.length < 400) (hcb : c.length ≤ bsF t L i) {r : PRs}
    (hr : r = if kdT t L (bsF t L i) = 6 then pElem (kdT t L) (nxT t L) 6 (nxT t L (bsF t L i)) else if kdT t L (bsF t L i) = 7 then pElem (kdT t L) (nxT t L) 7 (nxT t L (bsF t L i)) else pCmp (kdT t L) (nxT t L) (bsF t L i))
    (h1 : r.1 = true → ∀ M' q, CR M0 K q (c ++ r.2.2) M' → bsF t L q = r.2.1 → post 1 M') (h0 : r.1 = false → ∀ M', CF M0 r.2.1 M' → post 0 M') : P_Reader_readAtom_87 RA post M := by
  have hts := kdT_ts (t := t) hL4
  have hbL : bsF t L i ≤ L := hS.le hM.2.2.1
  refine sg_C (op := 6) hL4 hS (by omega) hM (fun k6 _ M1 a1 => ⟨fun z => absurd z (by decide), fun _ => ?_⟩) (fun k6 => ⟨fun _ => ?_, fun z => absurd (by decide) z⟩)
  · rw [if_pos k6] at hr
    subst hr
    exact rdC_elem (st := 6) hL4 hS a1 hc4 (Or.inl rfl) h1 h0
  · rw [if_neg k6] at hr
    refine sg_C (op := 7) hL4 hS (by omega) hM (fun k7 _ M1 a1 => ⟨fun z => absurd z (by decide), fun _ => ?_⟩) (fun k7 => ⟨fun _ => ?_, fun z => absurd (by decide) z⟩)
    · rw [if_pos k7] at hr
      subst hr
      exact rdC_elem (st := 7) hL4 hS a1 hc4 (Or.inr rfl) h1 h0
    · rw [if_neg k7] at hr
      subst hr
      unfold pCmp at h1 h0
      have hgs := good_sum hts (bsF t L i) hbL
      refine rdC_sum hL4 hS _ M i c hM hc4 hcb (fun hok M3 q3 a3 e3 => ⟨fun _ => ?_, fun z => absurd z (by decide)⟩) (fun hok M3 f3 => ?_)
      · rw [if_pos hok] at h1 h0
        have hgs := hgs.1 hok
        generalize hps : pSum (kdT t L) (nxT t L) (bsF t L i) = ps at *
        unfold pCmp1 at h1 h0
        have cmp : ∀ (op : Nat) (M6 : Mem), CR M0 K (q3 + 1) (c ++ ps.2.2) M6 → ps.2.1 < L → (op = 10 ∨ op = 11) →
            ((pCmp2 (kdT t L) (nxT t L) op (nxT t L ps.2.1) ps.2.2).1 = true → ∀ M' q, CR M0 K q (c ++ (pCmp2 (kdT t L) (nxT t L) op (nxT t L ps.2.1) ps.2.2).2.2) M' → bsF t L q = (pCmp2 (kdT t L) (nxT t L) op (nxT t L ps.2.1) ps.2.2).2.1 → post 1 M') →
            ((pCmp2 (kdT t L) (nxT t L) op (nxT t L ps.2.1) ps.2.2).1 = false → ∀ M', CF M0 (pCmp2 (kdT t L) (nxT t L) op (nxT t L ps.2.1) ps.2.2).2.1 M' → post 0 M') → P_Reader_readAtom_158 RA post (nI op) M6 := by
          intro op M6 a6 hlt hop k1 k0
          have hnx := hts.2.2.2 ps.2.1 hlt
          have e6 : bsF t L (q3 + 1) = nxT t L ps.2.1 := by show nxT t L (bsF t L q3) = _; rw [e3]
          have hg2 := good_sum hts (nxT t L ps.2.1) hnx.2
          unfold pCmp2 at k1 k0
          have hne : ¬ nI op = 16 := by rw [show (16 : Int32) = nI 16 from rfl, nI_eq (by omega) (by omega)]; omega
          refine ⟨fun _ => rdC_sum hL4 hS _ M6 (q3 + 1) _ a6 (by simp only [List.length_append]; omega) (by rw [e6]; simp only [List.length_append]; omega) (fun hok2 M7 q7 a7 e7 => ⟨fun z => absurd z (by decide), fun _ => ?_⟩) (fun hok2 M7 f7 => ?_), fun z => absurd z hne⟩
          · rw [e6] at hok2 a7 e7
            rw [if_pos hok2] at k1
            have hg2 := hg2.1 hok2
            refine s_C_emit (x := op) (by simp only [List.length_append]; omega) a7 (fun M8 a8 => ⟨fun z => absurd z (by decide), fun _ => ⟨Or.inr rfl, k1 rfl M8 q7 ?_ e7⟩⟩)
            simpa [List.append_assoc] using a8
          · rw [e6] at hok2 f7
            rw [hok2] at k0
            exact ⟨fun _ => ⟨Or.inl rfl, k0 rfl M7 f7⟩, fun z => absurd (by decide) z⟩
        refine sg_C (op := 10) hL4 hS (by omega) a3 (fun k10 hlt M4 a4 => ⟨fun z => absurd z (by decide), fun _ => ?_⟩) (fun k10 => ⟨fun _ => ?_, fun z => absurd (by decide) z⟩)
        · rw [e3] at k10
          rw [if_pos k10] at h1 h0
          exact cmp 10 M4 a4 (by rw [← e3]; exact hS.2.2.2.1 q3 hlt) (Or.inl rfl) h1 h0
        · rw [e3] at k10
          rw [if_neg k10] at h1 h0
          refine sg_C (op := 11) hL4 hS (by omega) a3 (fun k11 hlt M4 a4 => ⟨fun z => absurd z (by decide), fun _ => ?_⟩) (fun k11 => ⟨fun _ => ?_, fun z => absurd (by decide) z⟩)
          · rw [e3] at k11
            rw [if_pos k11] at h1 h0
            exact cmp 11 M4 a4 (by rw [← e3]; exact hS.2.2.2.1 q3 hlt) (Or.inr rfl) h1 h0
          · rw [e3] at k11
            rw [if_neg k11] at h0
            refine ⟨fun z => absurd rfl z, fun _ => s_C_fail hS a3 (fun M5 f5 => ⟨Or.inl rfl, h0 rfl M5 ?_⟩)⟩
            rw [e3] at f5; exact f5
      · rw [hok] at h0
        exact ⟨fun z => absurd (by decide) z, fun _ => h0 rfl M3 f3⟩
theorem rdC_atomS {RA : (Int32 → Mem → Prop) → Int32 → Mem → Prop} {can : Bool} {item any : Nat → PRs} {d : Nat} (hL4 : L ≤ 400) (hS : SgC M0 t L K) (hd : d ≤ 6) (hcan : can = true ↔ d < 6) (hany : can = true → any = pMany (kdT t L) (nxT t L) 13 (pMany (kdT t L) (nxT t L) 12 item)) (hg : can = true → Good L item) (hR : can = true → RdC M0 t L K (fun post M => RA post (nI (d + 1)) M) item) : RdC M0 t L K (fun post M => P_Reader_readAtom RA post (nI d) M) (pAtomS (kdT t L) (nxT t L) can any item) := by
  intro post M i c hM hc4 hcb h1 h0
  have hts := kdT_ts (t := t) hL4
  have hbL : bsF t L i ≤ L := hS.le hM.2.2.1
  have h6 : (6 : Int32) ≤ nI d ↔ ¬ can = true := by
    rw [lit_nI 6, nI_le_iff (by omega) (by omega), hcan]; omega
  have e2 : bsF t L (i + 1) = nxT t L (bsF t L i) := rfl
  have low : ∀ r : PRs, (¬ (can = true ∧ kdT t L (bsF t L i) = 14)) → (¬ (can = true ∧ kdT t L (bsF t L i) = 8)) → P_Reader_readAtom_87 RA post M := by
    intro _ n14 n8
    exact rdC_87 hL4 hS hM hc4 hcb (by unfold pAtomS; rw [if_neg n14, if_neg n8]) h1 h0
  have mid : ¬ (can = true ∧ kdT t L (bsF t L i) = 14) → P_Reader_readAtom_47 RA post (nI d) M := by
    intro n14
    refine ⟨fun q => low (pFail 0) n14 (fun z => (h6.mp q) z.1), fun q => ?_⟩
    have hc : can = true := Classical.byContradiction fun z => q (h6.mpr z)
    refine sg_C (op := 8) hL4 hS (by omega) hM (fun k8 _ M1 a1 => ⟨fun z => absurd z (by decide), fun _ => ?_⟩) (fun k8 => ⟨fun _ => low (pFail 0) n14 (fun z => k8 z.2), fun z => absurd (by decide) z⟩)
    have hat : pAtomS (kdT t L) (nxT t L) can any item (bsF t L i) = pNot (item (nxT t L (bsF t L i))) := by unfold pAtomS; rw [if_neg n14, if_pos ⟨hc, k8⟩]
    rw [hat] at h1 h0
    have hnx := hts.next hbL (by rw [k8]; decide)
    have hgm := hg hc (nxT t L (bsF t L i)) hnx.2.2
    rw [nI_1]
    refine hR hc _ M1 (i + 1) c a1 hc4 (by rw [e2]; omega) (fun hok M4 q4 a4 s4 => ⟨fun z => absurd z (by decide), fun _ => ?_⟩) (fun hok M4 f4 => ?_)
    · rw [e2] at hok a4 s4
      have hgm := hgm.1 hok
      unfold pNot at h1
      rw [if_pos hok] at h1
      refine s_C_emit (x := 8) (by simp only [List.length_append]; omega) a4 (fun M6 a6 => ⟨fun z => absurd z (by decide), fun _ => ⟨Or.inr rfl, h1 rfl M6 q4 ?_ s4⟩⟩)
      rw [List.append_assoc] at a6; exact a6
    · rw [e2] at hok f4
      unfold pNot at h0
      rw [hok] at h0
      exact ⟨fun _ => ⟨Or.inl rfl, h0 rfl M4 f4⟩, fun z => absurd (by decide) z⟩
  refine ⟨fun q => mid (fun z => (h6.mp q) z.1), fun q => ?_⟩
  have hc : can = true := Classical.byContradiction fun z => q (h6.mpr z)
  refine sg_C (op := 14) hL4 hS (by omega) hM (fun k14 _ M1 a1 => ⟨fun z => absurd z (by decide), fun _ => ?_⟩) (fun k14 => ⟨fun _ => mid (fun z => k14 z.2), fun z => absurd (by decide) z⟩)
  have hat : pAtomS (kdT t L) (nxT t L) can any item (bsF t L i) = pClose (kdT t L) (nxT t L) (any (nxT t L (bsF t L i))) := by unfold pAtomS; rw [if_pos ⟨hc, k14⟩]
  rw [hat, hany hc] at h1 h0
  have hnx := hts.next hbL (by rw [k14]; decide)
  have hgm := good_many hts (op := 13) (by decide) (good_many hts (op := 12) (by decide) (hg hc)) (nxT t L (bsF t L i)) hnx.2.2
  rw [nI_1]
  refine rdC_any hL4 hS (hg hc) (hR hc) _ M1 (i + 1) c a1 hc4 (by rw [e2]; omega) (fun hok M3 q3 a3 s3 => ⟨fun z => absurd z (by decide), fun _ => ?_⟩) (fun hok M3 f3 => ?_)
  · rw [e2] at hok a3 s3
    unfold pClose at h1 h0
    rw [if_pos hok] at h1 h0
    refine sg_C (op := 15) hL4 hS (by omega) a3 (fun k15 _ M5 a5 => ⟨fun _ => ⟨Or.inr rfl, ?_⟩, fun z => absurd z (by decide)⟩) (fun k15 => ⟨fun z => absurd (by decide) z, fun _ => s_C_fail hS a3 (fun M5 f5 => ⟨fun _ => ⟨Or.inl rfl, ?_⟩, fun z => absurd (by decide) z⟩)⟩)
    · rw [s3] at k15
      rw [if_pos k15] at h1
      exact h1 rfl M5 (q3 + 1) a5 (by show nxT t L (bsF t L q3) = _; rw [s3])
    · rw [s3] at k15 f5
      rw [if_neg k15] at h0
      exact h0 rfl M5 f5
  · rw [e2] at hok f3
    unfold pClose at h0
    rw [hok] at h0
    exact ⟨fun _ => ⟨Or.inl rfl, h0 rfl M3 f3⟩, fun z => absurd (by decide) z⟩
theorem rdC_atom (hL4 : L ≤ 400) (hS : SgC M0 t L K) : ∀ (n d : Nat), n + d = 6 → RdC M0 t L K (fun post M => P_Reader_readAtom_n (n + 2) post (nI d) M) (pAtom (kdT t L) (nxT t L) n)
  | 0, d, h => rdC_atomS hL4 hS (by omega) ⟨fun e => (by cases e), fun e => by omega⟩ (fun e => by cases e) (fun e => by cases e) (fun e => by cases e)
  | n + 1, d, h => rdC_atomS hL4 hS (by omega) ⟨fun _ => by omega, fun _ => rfl⟩ (fun _ => rfl) (fun _ => good_atom (kdT_ts hL4) n) (fun _ => rdC_atom hL4 hS n (d + 1) (by omega))
/-- what reading leaves as it was -/
def FrX (M M' : Mem) : Prop := (∀ c, (c < 84 ∨ c = 85 ∨ 89 ≤ c) → M' c = M c) ∧ M' 84 4 = M 84 4
theorem s_C_readText {post : Int32 → Mem → Prop} {M : Mem} (hL4 : L ≤ 400) (hL : M 84 4 = nI L) (ht : M 85 = t)
    (h1 : (txP t L).1 = true → ∀ M', FrX M M' → M' 84 7 = nI (txP t L).2.2.length → (∀ k x, (txP t L).2.2[k]? = some x → M' 88 k = nI x) → M' 84 8 = -1 → post 1 M')
    (h0 : (txP t L).1 = false → ∀ M', FrX M M' → M' 84 8 = nI (txP t L).2.1 → post 0 M') : P_Reader_readText post M := by
  have hts := kdT_ts (t := t) hL4
  refine s_C_split hL4 hL ht (fun M1 K f1 g1 hS M2 m2 M3 m3 M4 m4 => ?_)
  have o4 : ∀ c, c ≠ 84 → M4 c = M1 c := fun c hc => by rw [m4, ms_off _ _ _ hc, m3, ms_off _ _ _ hc, m2, ms_off _ _ _ hc]
  have s4 : ∀ k, k ≠ 6 → k ≠ 7 → k ≠ 8 → M4 84 k = M1 84 k := fun k a b e => by rw [m4, ms_ne _ _ _ e, m3, ms_ne _ _ _ b, m2, ms_ne _ _ _ a]
  have hS4 : SgC M4 t L K := by
    obtain ⟨s1, s2, s3, s4', s5⟩ := hS
    refine ⟨by rw [s4 5 (by omega) (by omega) (by omega)]; exact s1, s2, s3, s4', fun k hk => ?_⟩
    rw [o4 87 (by omega), o4 86 (by omega)]; exact s5 k hk
  have a4 : CR M4 K 0 [] M4 := ⟨⟨fun _ _ _ => rfl, fun _ _ _ _ => rfl⟩, by rw [m4, ms_ne _ _ _ (by omega), m3, ms_ne _ _ _ (by omega), m2, ms_at]; rfl, by omega, by rw [m4, ms_ne _ _ _ (by omega), m3, ms_at]; rfl, by rw [m4, ms_at], fun k x hx => by simp at hx⟩
  have frx : ∀ M', FrG M4 M' → FrX M M' := fun M' g => ⟨fun c hc => by rw [g.1 c (by omega) (by omega), o4 c (by omega)]; exact f1 c (by omega) (by omega) (by omega), by rw [g.2 4 (by omega) (by omega) (by omega), s4 4 (by omega) (by omega) (by omega)]; exact g1 4 (by omega)⟩
  unfold txP pWhole at h1 h0
  have hb0 : bsF t L 0 = rn (isSp t) L 0 := rfl
  rw [← hb0] at h1 h0
  have hga := good_any hts 6 _ (hS4.le (i := 0) (by omega))
  refine rdC_any hL4 hS4 (good_atom hts 6) (rdC_atom hL4 hS4 6 0 (by omega)) _ M4 0 [] a4 (by simp) (by simp) (fun hok M5 q5 a5 e5 => ⟨fun z => absurd z (by decide), fun _ => ?_⟩) (fun hok M5 f5 => ?_)
  · have hok : (pAny (kdT t L) (nxT t L) 6 (bsF t L 0)).1 = true := hok
    have a5 : CR M4 K q5 (pAny (kdT t L) (nxT t L) 6 (bsF t L 0)).2.2 M5 := a5
    have e5 : bsF t L q5 = (pAny (kdT t L) (nxT t L) 6 (bsF t L 0)).2.1 := e5
    rw [if_pos hok] at h1 h0
    refine sg_Cend hL4 hS4 a5 (fun k17 => ⟨fun _ => ⟨Or.inr rfl, ?_⟩, fun z => absurd z (by decide)⟩) (fun k17 => ⟨fun z => absurd (by decide) z, fun _ => s_C_fail hS4 a5 (fun M6 f6 => ⟨fun _ => ⟨Or.inl rfl, ?_⟩, fun z => absurd (by decide) z⟩)⟩)
    · rw [e5] at k17
      rw [if_pos k17] at h1
      exact h1 hok M5 (frx M5 a5.1) a5.2.2.2.1 a5.2.2.2.2.2 a5.2.2.2.2.1
    · rw [e5] at k17 f6
      rw [if_neg k17] at h0
      exact h0 rfl M6 (frx M6 f6.1) f6.2
  · have hok : (pAny (kdT t L) (nxT t L) 6 (bsF t L 0)).1 = false := hok
    have f5 : CF M4 (pAny (kdT t L) (nxT t L) 6 (bsF t L 0)).2.1 M5 := f5
    rw [hok] at h0
    exact ⟨fun _ => ⟨Or.inl rfl, h0 rfl M5 (frx M5 f5.1) f5.2⟩, fun z => absurd (by decide) z⟩
end CATOM
