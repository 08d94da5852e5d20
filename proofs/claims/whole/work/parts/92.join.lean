/-! BOTH SIDES HOLD THE SAME -/
def ClI (ext : List CD) (M : Mem) (r w : Nat → Int32) : Prop := ∀ i, i < nn (w 10) → ∃ cd, CkC ext M r w i cd
def JI (ext : List CD) (Mc Mm : Mem) : Prop :=
  Dk 1 Mc (Mm 1) ∧ WInv (Mm 1) ∧ Lw Mc (Mm 1) ∧ (∃ n, n ≤ 400 ∧ Mc 84 4 = nI n ∧ Mm 0 19 = nI n) ∧ Mc 85 = Mm 10 ∧ Mc 84 8 = Mm 0 24 ∧ Mc 0 7 = Mm 0 3 ∧
  (¬ Mc 0 7 = 0 → Dk 32 Mc (Mm 2) ∧ WInv (Mm 2) ∧ ClI ext Mc (Mc 62) (Mm 2)) ∧ ClI ext Mc (Mc 31) (Mm 1) ∧ CkR ext (Mc 31) ∧ CkR ext (Mc 62) ∧ LyOK ext
theorem CkC.mv {ext ext2 : List CD} {M M2 : Mem} {r r2 w w2 : Nat → Int32} {i : Nat} {cd : List Nat} (h : CkC ext M r w i cd) (hi : i < 6) (hM : ∀ c, 89 ≤ c → c < nC ext → M2 c = M c) (hr : r2 i = r i) (hw : ∀ k, 359 ≤ k → k < 5165 → k < 359 + 801 * i + 801 → 359 + 801 * i ≤ k → w2 k = w k) (hx : ∀ (k : Nat) (d : CD), (layC ++ ext)[k]? = some d → (layC ++ ext2)[k]? = some d) : CkC ext2 M2 r2 w2 i cd := by
  obtain ⟨kc, h1, h2, h3, h4, h5, h6, h7, h8, h9, h10⟩ := h
  have hlt : kc + 1 < nC ext := by rw [← nC_len]; exact (List.getElem?_eq_some_iff.mp h5).1
  refine ⟨kc, h1, h2, by rw [hr]; exact h3, hx _ _ h4, hx _ _ h5, fun j x hj => by rw [hM (kc + 1) (by omega) hlt]; exact h6 j x hj, ⟨?_, fun k x hk => ?_⟩, h8, h9, h10⟩
  · rw [hw _ (by omega) (by omega) (by omega) (by omega)]; exact h7.1
  · have hk4 : k < cd.length := (List.getElem?_eq_some_iff.mp hk).1
    rw [hw _ (by omega) (by omega) (by omega) (by omega), hw _ (by omega) (by omega) (by omega) (by omega)]
    exact h7.2 k x hk
theorem ClI.mv {ext ext2 : List CD} {M M2 : Mem} {r r2 w w2 : Nat → Int32} (h : ClI ext M r w) (hI : WInv w) (hM : ∀ c, 89 ≤ c → c < nC ext → M2 c = M c) (hr : ∀ i, i < nn (w 10) → r2 i = r i) (hw : ∀ k, 359 ≤ k → k < 359 + 801 * nn (w 10) → k < 5165 → w2 k = w k) (h10 : w2 10 = w 10) (hx : ∀ (k : Nat) (d : CD), (layC ++ ext)[k]? = some d → (layC ++ ext2)[k]? = some d) : ClI ext2 M2 r2 w2 := by
  intro i hi
  rw [h10] at hi
  have h6 := hI.nc.2
  obtain ⟨cd, h1⟩ := h i hi
  exact ⟨cd, h1.mv (by omega) hM (hr i hi) (fun k a b c d => hw k a (by omega) b) hx⟩
theorem CkR.mv {ext : List CD} {r r2 : Nat → Int32} (h : CkR ext r) (e : ∀ k, k < 6 → r2 k = r k) : CkR ext r2 := fun k hk => by rw [e k hk]; exact h k hk
/-- after a question -/
theorem JI.q {ext : List CD} {Mc Mc2 Mm Mm2 : Mem} (h : JI ext Mc Mm) (hF : FrQ Mc Mc2) (hL : Lw Mc2 (Mm 1)) (hS : MSame Mm Mm2) : JI ext Mc2 Mm2 := by
  obtain ⟨a1, a2, a3, ⟨n, a4, a5, a6⟩, a7, a8, a9, a10, a11, a12, a13, a14⟩ := h
  obtain ⟨s1, s2, s3, s4, s5, s6⟩ := hS
  have f : ∀ c, (c < 63 ∨ 84 ≤ c) → Mc2 c = Mc c := hF
  unfold JI
  rw [s1, s2, s3, s4, s5, s6, f 84 (by omega), f 85 (by omega), f 0 (by omega), f 62 (by omega), f 31 (by omega)]
  refine ⟨a1.off (fun c h1 h2 => f c (by omega)), a2, hL, ⟨n, a4, a5, a6⟩, a7, a8, a9, fun e => ?_, ?_, a12, a13, a14⟩
  · obtain ⟨b1, b2, b3⟩ := a10 e
    exact ⟨b1.off (fun c h1 h2 => f c (by omega)), b2, b3.mv b2 (fun c h1 _ => f c (by omega)) (fun _ _ => rfl) (fun _ _ _ _ => rfl) rfl (fun _ _ h => h)⟩
  · exact a11.mv a2 (fun c h1 _ => f c (by omega)) (fun _ _ => rfl) (fun _ _ _ _ => rfl) rfl (fun _ _ h => h)
/-- after a change -/
theorem JI.d {ext : List CD} {Mc Mc2 Mm Mm2 : Mem} {k : Int32} {o : OC} (h : JI ext Mc Mm) (hF : FrD Mc Mc2) (hD : Dk 1 Mc2 o.2.2) (hL : Lw Mc2 o.2.2) (hK : KpO (Mm 1) o) (hS : US Mm k o.2.2 Mm2) : JI ext Mc2 Mm2 := by
  obtain ⟨a1, a2, a3, ⟨n, a4, a5, a6⟩, a7, a8, a9, a10, a11, a12, a13, a14⟩ := h
  obtain ⟨s1, s2, s3, s4, s5, s6, s7⟩ := hS
  have f : ∀ c, (c = 0 ∨ 31 ≤ c) → c ≠ 63 → Mc2 c = Mc c := hF
  unfold JI
  rw [s1, s2, s3, s4, s5, s6, f 84 (by omega) (by omega), f 85 (by omega) (by omega), f 0 (by omega) (by omega), f 62 (by omega) (by omega), f 31 (by omega) (by omega)]
  refine ⟨hD, hK.1, hL, ⟨n, a4, a5, a6⟩, a7, a8, a9, fun e => ?_, ?_, a12, a13, a14⟩
  · obtain ⟨b1, b2, b3⟩ := a10 e
    exact ⟨b1.off (fun c h1 h2 => f c (by omega) (by omega)), b2, b3.mv b2 (fun c h1 _ => f c (by omega) (by omega)) (fun _ _ => rfl) (fun _ _ _ _ => rfl) rfl (fun _ _ h => h)⟩
  · exact a11.mv a2 (fun c h1 _ => f c (by omega) (by omega)) (fun _ _ => rfl) (fun k h1 _ _ => hK.2 k (Or.inr h1)) (hK.2 10 (Or.inl rfl)) (fun _ _ h => h)
/-- after nothing -/
theorem JI.n {ext : List CD} {Mc Mm Mm2 : Mem} (h : JI ext Mc Mm) (hS : MSame Mm Mm2) : JI ext Mc Mm2 := h.q (FrQ.refl _) h.2.2.1 hS
theorem US.same {M M2 : Mem} {k : Int32} (h : US M k (M 1) M2) : MSame M M2 := ⟨h.1, h.2.1, h.2.2.1, h.2.2.2.1, h.2.2.2.2.1, h.2.2.2.2.2.1⟩
/-! what a helper's answer says -/
def fO (cv : Int32 → Int64) (k v : Int32) (f : Nat → Int64) : Nat → Int64 := if k = 0 then vp_updL f 0 (cv v) else f
theorem QX1 {ext : List CD} {post : Int32 → Mem → (Nat → Int64) → Prop} {cv : Int32 → Int64} {M : Mem} {w : Nat → Int32} {f : Nat → Int64} {E1 : String} {q : Int32 × Int32} (hL : Lw M w) (K : ∀ M', FrQ M M' → Lw M' w → post q.1 M' (fO cv q.1 q.2 f)) : QX (fun r M1 => post 0 M1 (vp_updL f 0 (cv r))) (fun E M1 => (E = E1 ∧ post 1 M1 f)) M w [E1] q := by
  refine ⟨fun e M' hF hL' => ?_, fun k s hs e => ?_⟩
  · have := K M' hF hL'; unfold fO at this; rw [e, if_pos rfl] at this; exact this
  · have := K M (FrQ.refl _) hL
    match k, hs, e with
    | 0, hs, e => rw [e] at this; exact ⟨(Option.some.inj hs).symm, this⟩
theorem QX2 {post : Int32 → Mem → (Nat → Int64) → Prop} {cv : Int32 → Int64} {M : Mem} {w : Nat → Int32} {f : Nat → Int64} {E1 E2 : String} {q : Int32 × Int32} (hL : Lw M w) (K : ∀ M', FrQ M M' → Lw M' w → post q.1 M' (fO cv q.1 q.2 f)) : QX (fun r M1 => post 0 M1 (vp_updL f 0 (cv r))) (fun E M1 => (E = E1 ∧ post 1 M1 f) ∨ (E = E2 ∧ post 2 M1 f)) M w [E1, E2] q := by
  refine ⟨fun e M' hF hL' => ?_, fun k s hs e => ?_⟩
  · have := K M' hF hL'; unfold fO at this; rw [e, if_pos rfl] at this; exact this
  · have := K M (FrQ.refl _) hL
    match k, hs, e with
    | 0, hs, e => rw [e] at this; exact Or.inl ⟨(Option.some.inj hs).symm, this⟩
    | 1, hs, e => rw [e] at this; exact Or.inr ⟨(Option.some.inj hs).symm, this⟩
/-- how a change ends -/
def DQ (M : Mem) (o : OC) (M' : Mem) : Prop := (o.1 = 0 ∧ FrD M M' ∧ Dk 1 M' o.2.2 ∧ Lw M' o.2.2) ∨ (¬ o.1 = 0 ∧ M' = M)
theorem QD1 {post : Int32 → Mem → (Nat → Int64) → Prop} {cv : Int32 → Int64} {M : Mem} {f : Nat → Int64} {E1 : String} {o : OC} (K : ∀ M', DQ M o M' → post o.1 M' (fO cv o.1 o.2.1 f)) : QD (fun r M1 => post 0 M1 (vp_updL f 0 (cv r))) (fun E M1 => (E = E1 ∧ post 1 M1 f)) M [E1] o := by
  refine ⟨fun e M' hF hD hL => ?_, fun k s hs e => ?_⟩
  · have := K M' (Or.inl ⟨e, hF, hD, hL⟩); unfold fO at this; rw [e, if_pos rfl] at this; exact this
  · match k, hs, e with
    | 0, hs, e => have := K M (Or.inr ⟨by rw [e]; decide, rfl⟩); rw [e] at this; exact ⟨(Option.some.inj hs).symm, this⟩
theorem QD2 {post : Int32 → Mem → (Nat → Int64) → Prop} {cv : Int32 → Int64} {M : Mem} {f : Nat → Int64} {E1 E2 : String} {o : OC} (K : ∀ M', DQ M o M' → post o.1 M' (fO cv o.1 o.2.1 f)) : QD (fun r M1 => post 0 M1 (vp_updL f 0 (cv r))) (fun E M1 => (E = E1 ∧ post 1 M1 f) ∨ (E = E2 ∧ post 2 M1 f)) M [E1, E2] o := by
  refine ⟨fun e M' hF hD hL => ?_, fun k s hs e => ?_⟩
  · have := K M' (Or.inl ⟨e, hF, hD, hL⟩); unfold fO at this; rw [e, if_pos rfl] at this; exact this
  · match k, hs, e with
    | 0, hs, e => have := K M (Or.inr ⟨by rw [e]; decide, rfl⟩); rw [e] at this; exact Or.inl ⟨(Option.some.inj hs).symm, this⟩
    | 1, hs, e => have := K M (Or.inr ⟨by rw [e]; decide, rfl⟩); rw [e] at this; exact Or.inr ⟨(Option.some.inj hs).symm, this⟩
theorem QD3 {post : Int32 → Mem → (Nat → Int64) → Prop} {cv : Int32 → Int64} {M : Mem} {f : Nat → Int64} {E1 E2 E3 : String} {o : OC} (K : ∀ M', DQ M o M' → post o.1 M' (fO cv o.1 o.2.1 f)) : QD (fun r M1 => post 0 M1 (vp_updL f 0 (cv r))) (fun E M1 => (E = E1 ∧ post 1 M1 f) ∨ (E = E2 ∧ post 2 M1 f) ∨ (E = E3 ∧ post 3 M1 f)) M [E1, E2, E3] o := by
  refine ⟨fun e M' hF hD hL => ?_, fun k s hs e => ?_⟩
  · have := K M' (Or.inl ⟨e, hF, hD, hL⟩); unfold fO at this; rw [e, if_pos rfl] at this; exact this
  · match k, hs, e with
    | 0, hs, e => have := K M (Or.inr ⟨by rw [e]; decide, rfl⟩); rw [e] at this; exact Or.inl ⟨(Option.some.inj hs).symm, this⟩
    | 1, hs, e => have := K M (Or.inr ⟨by rw [e]; decide, rfl⟩); rw [e] at this; exact Or.inr (Or.inl ⟨(Option.some.inj hs).symm, this⟩)
    | 2, hs, e => have := K M (Or.inr ⟨by rw [e]; decide, rfl⟩); rw [e] at this; exact Or.inr (Or.inr ⟨(Option.some.inj hs).symm, this⟩)
theorem QV1 {post : Int32 → Mem → (Nat → Int64) → Prop} {M : Mem} {f : Nat → Int64} {E1 : String} {o : OC} (K : ∀ M', DQ M o M' → post o.1 M' f) : QD (fun _ M1 => post 0 M1 f) (fun E M1 => (E = E1 ∧ post 1 M1 f)) M [E1] o := by
  refine ⟨fun e M' hF hD hL => ?_, fun k s hs e => ?_⟩
  · have := K M' (Or.inl ⟨e, hF, hD, hL⟩); rw [e] at this; exact this
  · match k, hs, e with
    | 0, hs, e => have := K M (Or.inr ⟨by rw [e]; decide, rfl⟩); rw [e] at this; exact ⟨(Option.some.inj hs).symm, this⟩
theorem QV2 {post : Int32 → Mem → (Nat → Int64) → Prop} {M : Mem} {f : Nat → Int64} {E1 E2 : String} {o : OC} (K : ∀ M', DQ M o M' → post o.1 M' f) : QD (fun _ M1 => post 0 M1 f) (fun E M1 => (E = E1 ∧ post 1 M1 f) ∨ (E = E2 ∧ post 2 M1 f)) M [E1, E2] o := by
  refine ⟨fun e M' hF hD hL => ?_, fun k s hs e => ?_⟩
  · have := K M' (Or.inl ⟨e, hF, hD, hL⟩); rw [e] at this; exact this
  · match k, hs, e with
    | 0, hs, e => have := K M (Or.inr ⟨by rw [e]; decide, rfl⟩); rw [e] at this; exact Or.inl ⟨(Option.some.inj hs).symm, this⟩
    | 1, hs, e => have := K M (Or.inr ⟨by rw [e]; decide, rfl⟩); rw [e] at this; exact Or.inr ⟨(Option.some.inj hs).symm, this⟩
/-- a change, and the reference's: together again; code 0 or the row as it was -/
def OcS (w : Nat → Int32) (o : OC) : Prop := KpO w o ∧ (¬ o.1 = 0 → o.2.2 = w)
theorem JI.o {ext : List CD} {Mc Mc2 Mm Mm2 : Mem} {o : OC} (h : JI ext Mc Mm) (hQ : DQ Mc o Mc2) (hK : OcS (Mm 1) o) (hS : US Mm o.1 o.2.2 Mm2) : JI ext Mc2 Mm2 := by
  rcases hQ with ⟨e, hF, hD, hL⟩ | ⟨e, rfl⟩
  · exact h.d hF hD hL hK.1 hS
  · rw [hK.2 e] at hS
    exact h.n hS.same
theorem os_Screw {w : Nat → Int32} {a b c d : Int32} (h : WInv w) : OcS w (oScrew w a b c d) := ⟨kp_Screw h, by unfold oScrew; split <;> intro e <;> first | rfl | exact absurd rfl e⟩
theorem os_Gauge {w : Nat → Int32} {a b c : Int32} {ad bd : Bool} (h : WInv w) : OcS w (oGauge w a ad b bd c) := ⟨kp_Gauge h, by unfold oGauge; (repeat' split) <;> (intro e; first | rfl | exact absurd rfl e)⟩
theorem os_Error {w : Nat → Int32} {a : Int32} (h : WInv w) : OcS w (oError w a) := ⟨kp_Error h, by unfold oError; split <;> intro e <;> first | rfl | exact absurd rfl e⟩
theorem os_Known {w : Nat → Int32} {a b : Int32} {dn sp : Bool} (h : WInv w) : OcS w (oKnown w a dn b sp) := ⟨kp_Known h, by unfold oKnown; (repeat' split) <;> (intro e; first | rfl | exact absurd rfl e)⟩
theorem os_Element {w : Nat → Int32} {air : Bool} (h : WInv w) : OcS w (oElement w air) := ⟨kp_Element h, by unfold oElement; split <;> intro e <;> first | rfl | exact absurd rfl e⟩
theorem os_Line {w : Nat → Int32} {a b c : Int32} (h : WInv w) : OcS w (oLine w a b c) := ⟨kp_Line h, by unfold oLine; (repeat' split) <;> (intro e; first | rfl | exact absurd rfl e)⟩
theorem os_Plate {w : Nat → Int32} {a b c d e : Int32} (h : WInv w) : OcS w (oPlate w a b c d e) := ⟨kp_Plate h, by unfold oPlate; (repeat' split) <;> (intro e; first | rfl | exact absurd rfl e)⟩
theorem os_Reading {w : Nat → Int32} {p a s v : Int32} {dn : Bool} (h : WInv w) : OcS w (oReading w p a dn s v) := ⟨kp_Reading h, by unfold oReading; (repeat' split) <;> (intro e; first | rfl | exact absurd rfl e)⟩
theorem os_Maker {w : Nat → Int32} (h : WInv w) : OcS w (oMaker w) := ⟨kp_Maker h, by unfold oMaker; split <;> intro e <;> first | rfl | exact absurd rfl e⟩
theorem os_Recipe {w : Nat → Int32} {m e a b : Int32} (h : WInv w) : OcS w (oRecipe w m e a b) := ⟨kp_Recipe h, by unfold oRecipe; (repeat' split) <;> (intro e; first | rfl | exact absurd rfl e)⟩
