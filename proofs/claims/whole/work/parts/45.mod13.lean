/-! THE REFERENCE: calls that change the world's row. An outcome: what is thrown (0: nothing), the answer, the row behind it -/
abbrev OC : Type := Int32 × Int32 × (Nat → Int32)
def US (M : Mem) (k : Int32) (w : Nat → Int32) (M' : Mem) : Prop := M' 1 = w ∧ M' 2 = M 2 ∧ M' 10 = M 10 ∧ M' 0 3 = M 0 3 ∧ M' 0 19 = M 0 19 ∧ M' 0 24 = M 0 24 ∧ M' 0 0 = k
def Qo (post : Int32 → Mem → Prop) (M : Mem) (o : OC) : Prop := ∀ M', US M o.1 o.2.2 M' → post o.2.1 M'
theorem US.z (M : Mem) : US M 0 (M 1) (thr M 0) := by
  refine ⟨thr1 M, thr_off _ _ (by omega), thr_off _ _ (by omega), ?_, ?_, ?_, thr_0 _ _⟩ <;> simp [thr, ms]
theorem US.t (M : Mem) (k : Int32) : US M k (M 1) (thr (thr M 0) k) := by
  refine ⟨by rw [thr_off _ _ (by omega)]; exact thr1 M, by rw [thr_off _ _ (by omega), thr_off _ _ (by omega)], by rw [thr_off _ _ (by omega), thr_off _ _ (by omega)], ?_, ?_, ?_, thr_0 _ _⟩ <;> simp [thr, ms]
theorem US.put {M M' : Mem} {k : Int32} {w : Nat → Int32} (h : US M k w M') (i : Nat) (v : Int32) : US M k (upd w i v) (ms M' 1 i v) := by
  obtain ⟨h1, h2, h3, h4, h5, h6, h7⟩ := h
  refine ⟨by rw [ms_row, h1], ?_, ?_, ?_, ?_, ?_, ?_⟩
  · rw [ms_off _ _ _ (by omega)]; exact h2
  · rw [ms_off _ _ _ (by omega)]; exact h3
  all_goals rw [ms_off _ _ _ (by omega)]; assumption
theorem Qo.bad {post : Int32 → Mem → Prop} {M : Mem} {k v : Int32} (h : Qo post M (k, v, M 1)) : post v (thr (thr M 0) k) := h _ (US.t M k)
theorem Qo.qr {post : Int32 → Mem → Prop} {M : Mem} {k v : Int32} (h : Qo post M (k, v, M 1)) : Qr post M (qi k v) := fun M' h1 h2 => h M' ⟨h1.1, h1.2.1, h1.2.2.1, h1.2.2.2.1, h1.2.2.2.2.1, h1.2.2.2.2.2, h2⟩
theorem bsel {F : Int32 → Prop} {b : Bool} (h : F (bi b)) : (bi b = 0 → F 0) ∧ (¬ bi b = 0 → F 1) := by cases b <;> exact ⟨fun c => by first | exact h | exact absurd c (by decide), fun c => by first | exact h | exact absurd (by decide) c⟩
def oScrew (w : Nat → Int32) (a b c d : Int32) : OC := if inb a 2 50 && inb b 0 9 && inb c 0 (a - 1) && inb d 0 9 then (0, 0, upd (upd (upd (upd w 0 a) 1 b) 2 c) 3 d) else (1, 0, w)
theorem s_M_screw {post : Mem → Prop} {a b c d : Int32} {M : Mem} (h : Qo (fun _ => post) M (oScrew (M 1) a b c d)) : P_M_screw post a b c d M := by
  unfold oScrew at h
  have bad : (inb a 2 50 && inb b 0 9 && inb c 0 (a - 1) && inb d 0 9) = false → P_M_screw_48 post a b c d (thr M 0) := by
    intro e
    rw [e] at h
    exact tI0n (b := true) (fun e => absurd e (by decide)) (fun _ => Qo.bad h)
  refine th0 (s_M_in (b0n (fun e1 => bad (by simp [e1])) (fun e1 => s_M_in (b0n (fun e2 => bad (by simp [e2])) (fun e2 => s_M_in (b0n (fun e3 => bad (by simp [e3])) (fun e3 => s_M_in (bn0 (fun e4 => bad (by simp [e4])) (fun e4 => tI0n (b := false) (fun _ => ?_) (fun e => absurd e (by decide)))))))))))
  rw [e1, e2, e3, e4] at h
  refine ⟨vin_nI (n := 0) (by omega) (by omega), fun M2 m2 => ⟨vin_nI (n := 1) (by omega) (by omega), fun M3 m3 => ⟨vin_nI (n := 2) (by omega) (by omega), fun M4 m4 => ⟨vin_nI (n := 3) (by omega) (by omega), fun M5 m5 => ?_⟩⟩⟩⟩
  subst m2 m3 m4 m5
  exact h _ (((((US.z M).put 0 a).put 1 b).put 2 c).put 3 d)
theorem s_M_truly {post : Int32 → Mem → Prop} {p : Int32} {dn : Bool} {M : Mem} (hI : WInv (M 1)) (h : Qr post M (if inb p 0 999 then qi 0 (tpl (M 1) p (bi dn)) else qi 1 0)) : P_M_truly post p (bi dn) M := by
  refine th0 (s_M_noPlace (tI0n (fun c => ?_) (fun c => ?_)))
  · rw [bnot c] at h
    refine bsel (F := fun z => P_M_truly_32 post p z (thr M 0)) ?_
    refine s_M_truePlace (by rw [thr1]; exact hI.per) ?_
    rw [thr1]
    exact Qr.plain h
  · rw [bnot' c] at h
    exact Qr.thrown h
/-- a row put behind: five ints, four -/
def pu5 (w : Nat → Int32) (c k : Nat) (x1 x2 x3 x4 x5 : Int32) : Nat → Int32 := upd (upd (upd (upd (upd (upd w k x1) (k + 1) x2) (k + 2) x3) (k + 3) x4) (k + 4) x5) c (w c + 1)
def pu4 (w : Nat → Int32) (c k : Nat) (x1 x2 x3 x4 : Int32) : Nat → Int32 := upd (upd (upd (upd (upd w k x1) (k + 1) x2) (k + 2) x3) (k + 3) x4) c (w c + 1)
theorem upd_ne (f : Nat → Int32) {k j : Nat} (x : Int32) (h : j ≠ k) : upd f k x j = f j := by simp [upd, h]
theorem upd_eq (f : Nat → Int32) (k : Nat) (x : Int32) : upd f k x k = x := by simp [upd]
theorem i32_sub_add (x : Int32) : x + 1 - 1 = x := by rw [Int32.sub_eq_add_neg, Int32.add_assoc, Int32.add_right_neg, Int32.add_zero]
theorem s_M_puts5 {post : Int32 → Mem → Prop} {c a n : Nat} {x4 x5 x6 x7 x8 : Int32} {M M0 : Mem} {w : Nat → Int32} (hU : US M0 0 w M) (hc : c < 12) (ha : 12 ≤ a) (hn : w c = nI n) (hat : a + 5 * n + 4 < 5966) (h : ∀ M', US M0 0 (pu5 w c (a + 5 * n) x4 x5 x6 x7 x8) M' → post (nI n) M') : P_M_puts post (nI c) (nI a) 5 x4 x5 x6 x7 x8 M := by
  have h1 := hU.1
  refine ⟨vin_nI (by omega) (by omega), fun k ek => ?_⟩
  rw [nI_clamp (by omega), h1, hn] at ek
  have e0 : k = nI (a + 5 * n) := by rw [ek, lit_nI 5, pk_mul, nI_add]
  have e1 : k + 1 = nI (a + 5 * n + 1) := by rw [e0, nI_1]
  have e2 : k + 2 = nI (a + 5 * n + 2) := by rw [e0, lit_nI 2, nI_add]
  have e3 : k + 3 = nI (a + 5 * n + 3) := by rw [e0, lit_nI 3, nI_add]
  have e4 : k + 4 = nI (a + 5 * n + 4) := by rw [e0, lit_nI 4, nI_add]
  rw [e1, e2, e3, e4, e0]
  refine ⟨vin_nI (by omega) (by omega), fun M2 m2 => ⟨vin_nI (by omega) (by omega), fun M3 m3 => ⟨vin_nI (by omega) (by omega), fun M4 m4 => ⟨vin_nI (by omega) (by omega), fun M5 m5 => ⟨fun c => absurd c (by decide), fun _ => ⟨vin_nI (by omega) (by omega), fun M6 m6 => ⟨vin_nI (by omega) (by omega), vin_nI (by omega) (by omega), fun M7 m7 => ⟨vin_nI (by omega) (by omega), ?_⟩⟩⟩⟩⟩⟩⟩⟩
  rw [nI_clamp (by omega)] at m2 m3 m4 m5 m6 m7 ⊢
  have hU6 : US M0 0 (upd (upd (upd (upd (upd w (a + 5 * n) x4) (a + 5 * n + 1) x5) (a + 5 * n + 2) x6) (a + 5 * n + 3) x7) (a + 5 * n + 4) x8) M6 := by subst m2 m3 m4 m5 m6; exact ((((hU.put _ x4).put _ x5).put _ x6).put _ x7).put _ x8
  have e6 : M6 1 c = w c := by
    rw [hU6.1, upd_ne _ _ (by omega), upd_ne _ _ (by omega), upd_ne _ _ (by omega), upd_ne _ _ (by omega), upd_ne _ _ (by omega)]
  rw [e6] at m7
  have hU7 := hU6.put c (w c + 1)
  rw [← m7] at hU7
  have e7 : M7 1 c - 1 = nI n := by rw [hU7.1, upd_eq, hn, i32_sub_add]
  rw [e7]
  exact h M7 hU7
theorem s_M_puts4 {post : Int32 → Mem → Prop} {c a n : Nat} {x4 x5 x6 x7 x8 : Int32} {M M0 : Mem} {w : Nat → Int32} (hU : US M0 0 w M) (hc : c < 12) (ha : 12 ≤ a) (hn : w c = nI n) (hat : a + 4 * n + 4 < 5966) (h : ∀ M', US M0 0 (pu4 w c (a + 4 * n) x4 x5 x6 x7) M' → post (nI n) M') : P_M_puts post (nI c) (nI a) 4 x4 x5 x6 x7 x8 M := by
  have h1 := hU.1
  refine ⟨vin_nI (by omega) (by omega), fun k ek => ?_⟩
  rw [nI_clamp (by omega), h1, hn] at ek
  have e0 : k = nI (a + 4 * n) := by rw [ek, lit_nI 4, pk_mul, nI_add]
  have e1 : k + 1 = nI (a + 4 * n + 1) := by rw [e0, nI_1]
  have e2 : k + 2 = nI (a + 4 * n + 2) := by rw [e0, lit_nI 2, nI_add]
  have e3 : k + 3 = nI (a + 4 * n + 3) := by rw [e0, lit_nI 3, nI_add]
  rw [e1, e2, e3, e0]
  refine ⟨vin_nI (by omega) (by omega), fun M2 m2 => ⟨vin_nI (by omega) (by omega), fun M3 m3 => ⟨vin_nI (by omega) (by omega), fun M4 m4 => ⟨vin_nI (by omega) (by omega), fun M5 m5 => ⟨fun _ => ⟨vin_nI (by omega) (by omega), vin_nI (by omega) (by omega), fun M7 m7 => ⟨vin_nI (by omega) (by omega), ?_⟩⟩, fun c => absurd (by decide) c⟩⟩⟩⟩⟩
  rw [nI_clamp (by omega)] at m2 m3 m4 m5 m7 ⊢
  have hU6 : US M0 0 (upd (upd (upd (upd w (a + 4 * n) x4) (a + 4 * n + 1) x5) (a + 4 * n + 2) x6) (a + 4 * n + 3) x7) M5 := by subst m2 m3 m4 m5; exact (((hU.put _ x4).put _ x5).put _ x6).put _ x7
  have e6 : M5 1 c = w c := by
    rw [hU6.1, upd_ne _ _ (by omega), upd_ne _ _ (by omega), upd_ne _ _ (by omega), upd_ne _ _ (by omega)]
  rw [e6] at m7
  have hU7 := hU6.put c (w c + 1)
  rw [← m7] at hU7
  have e7 : M7 1 c - 1 = nI n := by rw [hU7.1, upd_eq, hn, i32_sub_add]
  rw [e7]
  exact h M7 hU7
def oGauge (w : Nat → Int32) (a : Int32) (ad : Bool) (b : Int32) (bd : Bool) (c : Int32) : OC :=
  if inb a 0 999 && inb b 0 999 && inb c 0 1200 then (if nn (w 5) = 8 then (2, 0, w) else (0, w 5 + 1, pu5 w 5 (12 + 5 * nn (w 5)) a (bi ad) b (bi bd) c)) else (1, 0, w)
theorem s_M_gauge {post : Int32 → Mem → Prop} {a b c : Int32} {ad bd : Bool} {M : Mem} (hI : WInv (M 1)) (h : Qo post M (oGauge (M 1) a ad b bd c)) : P_M_gauge post a (bi ad) b (bi bd) c M := by
  unfold oGauge at h
  obtain ⟨hn, hn8⟩ := hI.ng
  have bad : (inb a 0 999 && inb b 0 999 && inb c 0 1200) = false → P_M_gauge_32 post a (bi ad) b (bi bd) c (thr M 0) := by
    intro e
    rw [e] at h
    exact tIn0 (b := true) (fun e => absurd e (by decide)) (fun _ => Qo.bad h)
  refine th0 (s_M_noPlace (bn0 (fun e1 => s_M_noPlace (bn0 (fun e2 => s_M_in (bn0 (fun e3 => bad (by simp [e3])) (fun e3 => tIn0 (b := false) (fun _ => ?_) (fun e => absurd e (by decide))))) (fun e2 => bad (by simp [bnot' e2])))) (fun e1 => bad (by simp [bnot' e1]))))
  rw [bnot e1, bnot e2, e3] at h
  have e5 : thr M 0 1 (5 : Int32).toNatClampNeg = nI (nn (M 1 5)) := by rw [thr1]; exact hn
  refine ⟨vin_nI (n := 5) (by omega) (by omega), fun c8 => ?_, fun c8 => ?_⟩
  · rw [e5, show (8 : Int32) = nI 8 from rfl, nI_eq (by omega) (by omega)] at c8
    simp only [Bool.and_self, if_true, if_neg c8] at h
    refine tI0n (b := false) (fun _ => ?_) (fun e => absurd e (by decide))
    refine bsel (F := fun z => P_M_gauge_85 post b (bi bd) c 5 12 5 a z (thr M 0)) ?_
    refine bsel (F := fun z => P_M_gauge_96 post c 5 12 5 a (bi ad) b z (thr M 0)) ?_
    refine s_M_puts5 (c := 5) (a := 12) (US.z M) (by omega) (by omega) hn (by omega) (fun M' hU => ?_)
    rw [← hn]
    exact h M' hU
  · rw [e5, show (8 : Int32) = nI 8 from rfl, nI_eq (by omega) (by omega)] at c8
    simp only [Bool.and_self, if_true, if_pos c8] at h
    exact tI0n (b := true) (fun e => absurd e (by decide)) (fun _ => Qo.bad h)
def oError (w : Nat → Int32) (a : Int32) : OC := if inb a 0 50 then (0, 0, upd w 4 a) else (1, 0, w)
theorem s_M_error {post : Mem → Prop} {a : Int32} {M : Mem} (h : Qo (fun _ => post) M (oError (M 1) a)) : P_M_error post a M := by
  unfold oError at h
  refine th0 (s_M_in (bn0 (fun e1 => ?_) (fun e1 => ?_)))
  · rw [e1] at h
    exact tI0n (b := true) (fun e => absurd e (by decide)) (fun _ => Qo.bad h)
  · rw [e1] at h
    refine tI0n (b := false) (fun _ => ⟨vin_nI (n := 4) (by omega) (by omega), fun M2 m2 => ?_⟩) (fun e => absurd e (by decide))
    subst m2
    exact h _ ((US.z M).put 4 a)
def oKnown (w : Nat → Int32) (a : Int32) (dn : Bool) (b : Int32) (sp : Bool) : OC :=
  if inb a 0 999 && inb b 1000 9999 then (if nn (w 6) = 10 then (2, 0, w) else (0, w 6 + 1, pu4 w 6 (52 + 4 * nn (w 6)) a (bi dn) b (bi sp))) else (1, 0, w)
theorem s_M_known {post : Int32 → Mem → Prop} {a b : Int32} {dn sp : Bool} {M : Mem} (hI : WInv (M 1)) (h : Qo post M (oKnown (M 1) a dn b sp)) : P_M_known post a (bi dn) b (bi sp) M := by
  unfold oKnown at h
  obtain ⟨hn, hn8⟩ := hI.nk
  have bad : (inb a 0 999 && inb b 1000 9999) = false → P_M_known_20 post a (bi dn) b (bi sp) (thr M 0) := by
    intro e
    rw [e] at h
    exact tIn0 (b := true) (fun e => absurd e (by decide)) (fun _ => Qo.bad h)
  refine th0 (s_M_noPlace (bn0 (fun e1 => s_M_noWave (b0n (fun e2 => tIn0 (b := false) (fun _ => ?_) (fun e => absurd e (by decide))) (fun e2 => bad (by simp [bnot' e2])))) (fun e1 => bad (by simp [bnot' e1]))))
  rw [bnot e1, bnot e2] at h
  have e5 : thr M 0 1 (6 : Int32).toNatClampNeg = nI (nn (M 1 6)) := by rw [thr1]; exact hn
  refine ⟨vin_nI (n := 6) (by omega) (by omega), fun c8 => ?_, fun c8 => ?_⟩
  · rw [e5, show (10 : Int32) = nI 10 from rfl, nI_eq (by omega) (by omega)] at c8
    simp only [Bool.and_self, if_true, if_neg c8] at h
    refine tI0n (b := false) (fun _ => ?_) (fun e => absurd e (by decide))
    refine bsel (F := fun z => P_M_known_75 post b (bi sp) 6 52 4 a z (thr M 0)) ?_
    refine bsel (F := fun z => P_M_known_86 post 6 52 4 a (bi dn) b z (thr M 0)) ?_
    refine s_M_puts4 (c := 6) (a := 52) (US.z M) (by omega) (by omega) hn (by omega) (fun M' hU => ?_)
    rw [← hn]
    exact h M' hU
  · rw [e5, show (10 : Int32) = nI 10 from rfl, nI_eq (by omega) (by omega)] at c8
    simp only [Bool.and_self, if_true, if_pos c8] at h
    exact tI0n (b := true) (fun e => absurd e (by decide)) (fun _ => Qo.bad h)
def oElement (w : Nat → Int32) (air : Bool) : OC := if nn (w 7) = 6 then (1, 0, w) else (0, w 7, upd (upd (upd w (92 + 14 * nn (w 7)) (bi air)) (93 + 14 * nn (w 7)) 0) 7 (w 7 + 1))
theorem s_M_element {post : Int32 → Mem → Prop} {air : Bool} {M : Mem} (hI : WInv (M 1)) (h : Qo post M (oElement (M 1) air)) : P_M_element post (bi air) M := by
  unfold oElement at h
  obtain ⟨hn, hn8⟩ := hI.ne
  have e5 : thr M 0 1 (7 : Int32).toNatClampNeg = nI (nn (M 1 7)) := by rw [thr1]; exact hn
  refine th0 ⟨vin_nI (n := 7) (by omega) (by omega), fun c8 => ?_, fun c8 => ?_⟩
  · rw [e5, show (6 : Int32) = nI 6 from rfl, nI_eq (by omega) (by omega)] at c8
    simp only [if_neg c8] at h
    refine tI0n (b := false) (fun _ => ⟨vin_nI (n := 7) (by omega) (by omega), fun x2 e2 => ?_⟩) (fun e => absurd e (by decide))
    rw [e5] at e2
    refine bsel (F := fun z => P_M_element_60 post x2 (92 + 14 * x2) z (thr M 0)) ?_
    have ea : (92 : Int32) + 14 * x2 = nI (92 + 14 * nn (M 1 7)) := by rw [e2]; exact ixI 92 14 _
    have eb : (92 : Int32) + 14 * x2 + 1 = nI (93 + 14 * nn (M 1 7)) := by rw [ea, nI_1]; congr 1; omega
    unfold P_M_element_60
    rw [eb, ea, nI_clamp (by omega), nI_clamp (by omega)]
    refine ⟨vin_nI (by omega) (by omega), fun M2 m2 => ⟨vin_nI (by omega) (by omega), fun M3 m3 => ⟨vin_nI (n := 7) (by omega) (by omega), vin_nI (n := 7) (by omega) (by omega), fun M4 m4 => ?_⟩⟩⟩
    have hU3 : US M 0 (upd (upd (M 1) (92 + 14 * nn (M 1 7)) (bi air)) (93 + 14 * nn (M 1 7)) 0) M3 := by subst m2 m3; exact ((US.z M).put _ _).put _ _
    have e6 : M3 1 (7 : Int32).toNatClampNeg = M 1 7 := by
      rw [hU3.1, show (7 : Int32).toNatClampNeg = 7 from rfl, upd_ne _ _ (by omega), upd_ne _ _ (by omega)]
    rw [e6] at m4
    have hU4 := hU3.put 7 (M 1 7 + 1)
    subst m4
    rw [e2, ← hn]
    exact h _ hU4
  · rw [e5, show (6 : Int32) = nI 6 from rfl, nI_eq (by omega) (by omega)] at c8
    simp only [if_pos c8] at h
    exact tI0n (b := true) (fun e => absurd e (by decide)) (fun _ => Qo.bad h)
def oLine (w : Nat → Int32) (e v s : Int32) : OC :=
  if !inb e 0 (w 7 - 1) then (1, 0, w) else if !(inb v 1000 9999 && inb s 1 9) then (2, 0, w) else if nn (w (93 + 14 * nn e)) = 6 then (3, 0, w) else
    (0, w (93 + 14 * nn e), upd (upd (upd w (94 + 14 * nn e + 2 * nn (w (93 + 14 * nn e))) v) (95 + 14 * nn e + 2 * nn (w (93 + 14 * nn e))) s) (93 + 14 * nn e) (w (93 + 14 * nn e) + 1))
theorem s_M_line {post : Int32 → Mem → Prop} {e v s : Int32} {M : Mem} (hI : WInv (M 1)) (h : Qo post M (oLine (M 1) e v s)) : P_M_line post e v s M := by
  unfold oLine at h
  have hr : thr M 0 1 = M 1 := thr1 M
  refine th0 (s_M_none (c := 7) (by omega) (tIn0 (fun c1 => ?_) (fun c1 => ?_)))
  · rw [hr] at c1
    simp only [c1, Bool.false_eq_true, if_false] at h
    obtain ⟨he, he7, he6⟩ := hI.ine (bnot c1)
    have bad : (inb v 1000 9999 && inb s 1 9) = false → P_M_line_38 post e v s (thr M 0) := by
      intro e2
      simp only [e2, Bool.not_false, if_true] at h
      exact tIn0 (b := true) (fun e => absurd e (by decide)) (fun _ => Qo.bad h)
    refine s_M_noWave (bn0 (fun e2 => s_M_in (bn0 (fun e3 => bad (by simp [e3])) (fun e3 => tIn0 (b := false) (fun _ => ?_) (fun e => absurd e (by decide))))) (fun e2 => bad (by simp [bnot' e2])))
    simp only [bnot e2, e3, Bool.and_self, Bool.not_true, Bool.false_eq_true, if_false] at h
    rw [he] at h ⊢
    generalize nn e = n at *
    obtain ⟨hl, hl6⟩ := hI.nl he6
    rw [show nn (nI n) = n by unfold nn; rw [nI_toI (by omega)]; rfl] at h
    refine s_M_lines he6 ⟨fun c8 => ?_, fun c8 => ?_⟩
    · rw [hr, hl, show (6 : Int32) = nI 6 from rfl, nI_eq (by omega) (by omega)] at c8
      simp only [if_neg c8] at h
      refine tI0n (b := false) (fun _ x4 e4 => s_M_lines he6 ?_) (fun e => absurd e (by decide))
      rw [hr]
      have ex : x4 = nI (92 + 14 * n) := by rw [e4]; exact ixI 92 14 n
      have ea : x4 + 2 + 2 * M 1 (93 + 14 * n) = nI (94 + 14 * n + 2 * nn (M 1 (93 + 14 * n))) := by rw [ex, hl, lit_nI 2, pk_mul, nI_add, nI_add, ← hl]; congr 1; omega
      have eb : x4 + 3 + 2 * M 1 (93 + 14 * n) = nI (95 + 14 * n + 2 * nn (M 1 (93 + 14 * n))) := by rw [ex, hl, lit_nI 2, lit_nI 3, pk_mul, nI_add, nI_add, ← hl]; congr 1; omega
      have ec : x4 + 1 = nI (93 + 14 * n) := by rw [ex, nI_1]; congr 1; omega
      rw [ea, eb, ec, nI_clamp (by omega), nI_clamp (by omega), nI_clamp (by omega)]
      refine ⟨vin_nI (by omega) (by omega), fun M2 m2 => ⟨vin_nI (by omega) (by omega), fun M3 m3 => ⟨vin_nI (by omega) (by omega), vin_nI (by omega) (by omega), fun M4 m4 => ?_⟩⟩⟩
      have hU3 : US M 0 (upd (upd (M 1) (94 + 14 * n + 2 * nn (M 1 (93 + 14 * n))) v) (95 + 14 * n + 2 * nn (M 1 (93 + 14 * n))) s) M3 := by subst m2 m3; exact ((US.z M).put _ _).put _ _
      have e6 : M3 1 (93 + 14 * n) = M 1 (93 + 14 * n) := by rw [hU3.1, upd_ne _ _ (by omega), upd_ne _ _ (by omega)]
      rw [e6] at m4
      subst m4
      exact h _ (hU3.put _ _)
    · rw [hr, hl, show (6 : Int32) = nI 6 from rfl, nI_eq (by omega) (by omega)] at c8
      simp only [if_pos c8] at h
      exact tI0n (b := true) (fun e => absurd e (by decide)) (fun _ => Qo.bad h)
  · rw [hr] at c1
    simp only [c1, if_true] at h
    exact Qo.bad h
def oPlate (w : Nat → Int32) (a b c d e : Int32) : OC :=
  if inb a 1 9 && inb b 1 5 && inb c 1000 9999 && inb d 1000 9999 && decide (¬ d < c) && inb e 0 500 then (if nn (w 8) = 3 then (2, 0, w) else (0, w 8, pu5 w 8 (176 + 5 * nn (w 8)) a b c d e)) else (1, 0, w)
theorem s_M_plate {post : Int32 → Mem → Prop} {a b c d e : Int32} {M : Mem} (hI : WInv (M 1)) (h : Qo post M (oPlate (M 1) a b c d e)) : P_M_plate post a b c d e M := by
  unfold oPlate at h
  obtain ⟨hn, hn8⟩ := hI.np
  have bad : (inb a 1 9 && inb b 1 5 && inb c 1000 9999 && inb d 1000 9999 && decide (¬ d < c) && inb e 0 500) = false → P_M_plate_58 post a b c d e (thr M 0) := by
    intro e1
    rw [e1] at h
    exact tIn0 (b := true) (fun e => absurd e (by decide)) (fun _ => Qo.bad h)
  refine th0 (s_M_in (b0n (fun e1 => bad (by simp [e1])) (fun e1 => s_M_in (b0n (fun e2 => bad (by simp [e2])) (fun e2 => s_M_noWave (bn0 (fun e3 => s_M_noWave (bn0 (fun e4 => ⟨fun e5 => bad (by simp [e5]), fun e5 => s_M_in (bn0 (fun e6 => bad (by simp [e6])) (fun e6 => tIn0 (b := false) (fun _ => ?_) (fun e => absurd e (by decide))))⟩) (fun e4 => bad (by simp [bnot' e4])))) (fun e3 => bad (by simp [bnot' e3]))))))))
  rw [e1, e2, bnot e3, bnot e4, decide_eq_true e5, e6] at h
  have e5 : thr M 0 1 (8 : Int32).toNatClampNeg = nI (nn (M 1 8)) := by rw [thr1]; exact hn
  refine ⟨vin_nI (n := 8) (by omega) (by omega), fun c8 => ?_, fun c8 => ?_⟩
  · rw [e5, show (3 : Int32) = nI 3 from rfl, nI_eq (by omega) (by omega)] at c8
    simp only [Bool.and_self, if_true, if_neg c8] at h
    refine tI0n (b := false) (fun _ => ?_) (fun e => absurd e (by decide))
    refine s_M_puts5 (c := 8) (a := 176) (US.z M) (by omega) (by omega) hn (by omega) (fun M' hU => ?_)
    rw [← hn]
    exact h M' hU
  · rw [e5, show (3 : Int32) = nI 3 from rfl, nI_eq (by omega) (by omega)] at c8
    simp only [Bool.and_self, if_true, if_pos c8] at h
    exact tI0n (b := true) (fun e => absurd e (by decide)) (fun _ => Qo.bad h)
def oReading (w : Nat → Int32) (p a : Int32) (dn : Bool) (s v : Int32) : OC :=
  if !inb p 0 (w 8 - 1) then (1, 0, w) else if !(inb a 0 999 && inb s 1 9 && inb v 1 9) then (2, 0, w) else if nn (w 9) = 24 then (3, 0, w) else (0, w 9, pu5 w 9 (191 + 5 * nn (w 9)) p a (bi dn) s v)
theorem s_M_reading {post : Int32 → Mem → Prop} {p a s v : Int32} {dn : Bool} {M : Mem} (hI : WInv (M 1)) (h : Qo post M (oReading (M 1) p a dn s v)) : P_M_reading post p a (bi dn) s v M := by
  unfold oReading at h
  have hr : thr M 0 1 = M 1 := thr1 M
  obtain ⟨hn, hn8⟩ := hI.nr
  refine th0 (s_M_none (c := 8) (by omega) (tIn0 (fun c1 => ?_) (fun c1 => ?_)))
  · rw [hr] at c1
    simp only [c1, Bool.false_eq_true, if_false] at h
    have bad : (inb a 0 999 && inb s 1 9 && inb v 1 9) = false → P_M_reading_50 post p a (bi dn) s v (thr M 0) := by
      intro e2
      simp only [e2, Bool.not_false, if_true] at h
      exact tIn0 (b := true) (fun e => absurd e (by decide)) (fun _ => Qo.bad h)
    refine s_M_noPlace (bn0 (fun e2 => s_M_in (b0n (fun e3 => bad (by simp [e3])) (fun e3 => s_M_in (bn0 (fun e4 => bad (by simp [e4])) (fun e4 => tIn0 (b := false) (fun _ => ?_) (fun e => absurd e (by decide))))))) (fun e2 => bad (by simp [bnot' e2])))
    simp only [bnot e2, e3, e4, Bool.and_self, Bool.not_true, Bool.false_eq_true, if_false] at h
    have e5 : thr M 0 1 9 = nI (nn (M 1 9)) := by rw [thr1]; exact hn
    refine s_M_readings ⟨fun c8 => ?_, fun c8 => ?_⟩
    · rw [e5, show (24 : Int32) = nI 24 from rfl, nI_eq (by omega) (by omega)] at c8
      simp only [if_neg c8] at h
      refine tI0n (b := false) (fun _ => ?_) (fun e => absurd e (by decide))
      refine bsel (F := fun z => P_M_reading_104 post s v 9 191 5 p a z (thr M 0)) ?_
      refine s_M_puts5 (c := 9) (a := 191) (US.z M) (by omega) (by omega) hn (by omega) (fun M' hU => ?_)
      rw [← hn]
      exact h M' hU
    · rw [e5, show (24 : Int32) = nI 24 from rfl, nI_eq (by omega) (by omega)] at c8
      simp only [if_pos c8] at h
      exact tI0n (b := true) (fun e => absurd e (by decide)) (fun _ => Qo.bad h)
  · rw [hr] at c1
    simp only [c1, if_true] at h
    exact Qo.bad h
def oAway (w : Nat → Int32) : OC := if w 9 = 0 then (0, -1, w) else (0, w 9 - 1, upd w 9 (w 9 - 1))
theorem s_M_away {post : Int32 → Mem → Prop} {M : Mem} (h : Qo post M (oAway (M 1))) : P_M_away post M := by
  unfold oAway at h
  have hr : thr M 0 1 9 = M 1 9 := by rw [thr1]
  refine th0 (s_M_readings ⟨fun c => ⟨vin_nI (n := 9) (by omega) (by omega), vin_nI (n := 9) (by omega) (by omega), fun M3 m3 => s_M_readings ?_⟩, fun c => ?_⟩)
  · rw [hr] at c
    rw [show (9 : Int32).toNatClampNeg = 9 from rfl, hr] at m3
    simp only [if_neg c] at h
    have hU : US M 0 (upd (M 1) 9 (M 1 9 - 1)) M3 := by subst m3; exact (US.z M).put 9 _
    rw [hU.1, upd_eq]
    exact h M3 hU
  · rw [hr] at c
    simp only [if_pos c] at h
    exact h _ (US.z M)
