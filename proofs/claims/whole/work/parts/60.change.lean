/-! THE CLASS: calls that change the desk -/
def AgL (w w2 : Nat → Int32) : Prop := (∀ i, i < 5 → w2 i = w i) ∧ w2 6 = w 6 ∧ ∀ i, 52 ≤ i → i < 92 → w2 i = w i
theorem AgL.lo {w w2 : Nat → Int32} (h : AgL w w2) (hn : nn (w 6) ≤ 10) : loA w2 = loA w ∧ hiA w2 = hiA w := by
  have hk : ∀ s x, x < 10 → knZ w2 s x = knZ w s x := fun s x hx => by
    unfold knZ tpl
    rw [h.2.2 (52 + 4 * x) (by omega) (by omega), h.2.2 (53 + 4 * x) (by omega) (by omega), h.2.2 (55 + 4 * x) (by omega) (by omega), h.1 0 (by omega), h.1 1 (by omega), h.1 2 (by omega), h.1 3 (by omega)]
  have hr : ∀ s b c x, x < 10 → rsZ w2 s b c x = rsZ w s b c x := fun s b c x hx => by
    unfold rsZ; rw [hk s x hx, h.2.2 (54 + 4 * x) (by omega) (by omega)]
  have hlo : ∀ s b c x, x ≤ 10 → loF w2 s b c x = loF w s b c x := by
    intro s b c x
    induction x with
    | zero => intro _; rfl
    | succ x ih => intro hx; simp only [loF]; rw [ih (by omega), hr s b c x (by omega), h.1 4 (by omega)]
  have hhi : ∀ s b c x, x ≤ 10 → hiF w2 s b c x = hiF w s b c x := by
    intro s b c x
    induction x with
    | zero => intro _; rfl
    | succ x ih => intro hx; simp only [hiF]; rw [ih (by omega), hr s b c x (by omega), h.1 4 (by omega)]
  constructor
  · funext s b c; unfold loA; rw [h.2.1]; exact hlo s b c _ hn
  · funext s b c; unfold hiA; rw [h.2.1]; exact hhi s b c _ hn
theorem Lw.ag {w w2 : Nat → Int32} {M M' : Mem} (hL : Lw M w) (h : AgL w w2) (hn : nn (w 6) ≤ 10) (hM : ∀ c, 63 ≤ c → c ≤ 68 → M' c = M c) : Lw M' w2 := by
  obtain ⟨h1, h2⟩ := h.lo hn
  have e1 : toA w2 0 = toA w 0 := by unfold toA maA; rw [h1, h2]
  have e2 : okA w2 = okA w := by funext k; unfold okA; rw [h1, h2]
  have e3 : aK w2 = aK w := by funext m k; unfold aK; rw [h1, h2]
  have e4 : hK w2 = hK w := by funext m k z; unfold hK; rw [e3]
  have e5 : ∀ z most n, enF w2 z most n = enF w z most n := by
    intro z most n
    induction n with
    | zero => rfl
    | succ n ih =>
      have ev : wvA w2 z most n = wvA w z most n := by unfold wvA; rw [h1, h2, h.1 4 (by omega)]
      simp only [enF]; rw [ih, e2, ev]
  have e6 : edZ w2 = edZ w := by funext z most; exact e5 z most 1710
  rcases hL with hL | hL
  · left; rw [hM 63 (by omega) (by omega)]; exact hL
  · right
    unfold LwOK HuK at *
    rw [e1, e2, e3, e4, e6, h1, hM 63 (by omega) (by omega), hM 65 (by omega) (by omega), hM 66 (by omega) (by omega), hM 67 (by omega) (by omega), hM 68 (by omega) (by omega)]
    exact hL
/-- all but the desk and the solver is as it was -/
def FrD (M M' : Mem) : Prop := ∀ c, (c = 0 ∨ 31 ≤ c) → c ≠ 63 → M' c = M c
theorem FrD.refl (M : Mem) : FrD M M := fun _ _ _ => rfl
theorem FrD.put {M M' : Mem} (h : FrD M M') {k : Nat} (hk : (1 ≤ k ∧ k ≤ 30) ∨ k = 63) (i : Nat) (v : Int32) : FrD M (ms M' k i v) := fun c h1 h2 => by rw [ms_off _ _ _ (by omega)]; exact h c h1 h2
/-- an outcome of a call that may change the desk -/
def QD (post : Int32 → Mem → Prop) (ex : String → Mem → Prop) (M : Mem) (E : List String) (o : OC) : Prop :=
  (o.1 = 0 → ∀ M', FrD M M' → Dk 1 M' o.2.2 → Lw M' o.2.2 → post o.2.1 M') ∧ ∀ k s, E[k]? = some s → o.1 = nI (k + 1) → ex s M
theorem QD.bad1 {post : Int32 → Mem → Prop} {ex : String → Mem → Prop} {M : Mem} {a : String} {E : List String} {v : Int32} {w : Nat → Int32} (h : QD post ex M (a :: E) (1, v, w)) : ex a M := h.2 0 a rfl rfl
theorem QD.bad2 {post : Int32 → Mem → Prop} {ex : String → Mem → Prop} {M : Mem} {a b : String} {E : List String} {v : Int32} {w : Nat → Int32} (h : QD post ex M (a :: b :: E) (2, v, w)) : ex b M := h.2 1 b rfl rfl
theorem QD.bad3 {post : Int32 → Mem → Prop} {ex : String → Mem → Prop} {M : Mem} {a b c : String} {E : List String} {v : Int32} {w : Nat → Int32} (h : QD post ex M (a :: b :: c :: E) (3, v, w)) : ex c M := h.2 2 c rfl rfl
theorem locS {i j c s : Nat} (h : i = j) (hl : locT j = (c, s)) : locT i = (c, s) := by rw [h]; exact hl
theorem s_isWave {post : Int32 → Mem → Prop} {x : Int32} {M : Mem} (h : post (bi (inb x 1000 9999)) M) : P_R_isWave post x M := s_R_within ⟨bi_01 _, h⟩
theorem s_C_forget {post : Mem → Prop} {M : Mem} (h : post (ms M 63 12 0)) : P_Laws_forget post M := by
  first
  | exact fun M1 e => by subst e; exact h
  | exact h
theorem nar_bi (b : Bool) : vp_nar .boolean (bi b) = bi b := by cases b <;> decide
theorem s_R_screw {post : Mem → Prop} {ex : String → Mem → Prop} {w : Nat → Int32} {a b c d : Int32} {M : Mem} (hD : Dk 1 M w) (h : QD (fun _ => post) ex M [IAE] (oScrew w a b c d)) : P_R_screw post ex a b c d M := by
  unfold oScrew at h
  have bad : (inb a 2 50 && inb b 0 9 && inb c 0 (a - 1) && inb d 0 9) = false → ex IAE M := fun e => by rw [e] at h; exact h.bad1
  have b24 : (inb a 2 50 && inb b 0 9 && inb c 0 (a - 1) && inb d 0 9) = false → P_R_screw_24 post ex a b c d M := fun e => ⟨fun q => absurd rfl q, fun _ => bad e⟩
  have b54 : (inb a 2 50 && inb b 0 9 && inb c 0 (a - 1) && inb d 0 9) = false → P_R_screw_54 post ex a b c d M := fun e => ⟨fun q => absurd rfl q, fun _ => bad e⟩
  refine s_R_within (b0n (fun e1 => b24 (by simp [e1])) (fun e1 => s_R_within (b0n (fun e2 => b24 (by simp [e2])) (fun e2 => ⟨fun _ => s_R_within (b0n (fun e3 => b54 (by simp [e3])) (fun e3 => s_R_within (b0n (fun e4 => b54 (by simp [e4])) (fun e4 => ⟨fun _ => ?_, fun q => absurd q (by decide)⟩)))), fun q => absurd q (by decide)⟩))))
  rw [e1, e2, e3, e4] at h
  intro M2 m2 M3 m3 M4 m4 M5 m5
  refine s_C_forget ?_
  refine h.1 rfl _ ?_ ?_ (Or.inl (ms_at ..))
  · subst m2 m3 m4 m5
    exact (((((FrD.refl M).put (by omega) _ _).put (by omega) _ _).put (by omega) _ _).put (by omega) _ _).put (by omega) _ _
  · subst m2 m3 m4 m5
    have h4 := (((hD.put (i := 0) (by omega) rfl a).put (i := 1) (by omega) rfl b).put (i := 2) (by omega) rfl c).put (i := 3) (by omega) rfl d
    exact h4.off (fun c h1 h2 => ms_off _ _ _ (by omega))
theorem s_R_error {post : Mem → Prop} {ex : String → Mem → Prop} {w : Nat → Int32} {a : Int32} {M : Mem} (hD : Dk 1 M w) (h : QD (fun _ => post) ex M [IAE] (oError w a)) : P_R_error post ex a M := by
  unfold oError at h
  refine s_R_within (s_want (fun c => ?_) (fun c => ?_))
  · rw [c] at h
    intro M3 m3
    refine s_C_forget ?_
    refine h.1 rfl _ ?_ ?_ (Or.inl (ms_at ..))
    · subst m3; exact ((FrD.refl M).put (by omega) _ _).put (by omega) _ _
    · subst m3
      exact (hD.put (i := 4) (by omega) rfl a).off (fun c h1 h2 => ms_off _ _ _ (by omega))
  · rw [c] at h; exact h.bad1
theorem s_R_gauge {post : Int32 → Mem → Prop} {ex : String → Mem → Prop} {w : Nat → Int32} {a b c : Int32} {ad bd : Bool} {M : Mem} (hD : Dk 1 M w) (hI : WInv w) (hL : Lw M w) (h : QD post ex M [IAE, UOE] (oGauge w a ad b bd c)) : P_R_gauge post ex a (bi ad) b (bi bd) c M := by
  unfold oGauge at h
  obtain ⟨hn, hn8⟩ := hI.ng
  have bad : (inb a 0 999 && inb b 0 999 && inb c 0 1200) = false → P_R_gauge_38 post ex a (bi ad) b (bi bd) c M := fun e => ⟨fun q => absurd rfl q, fun _ => by rw [e] at h; exact h.bad1⟩
  refine s_R_within (b0n (fun e1 => bad (by simp [e1])) (fun e1 => s_R_within (b0n (fun e2 => bad (by simp [e2])) (fun e2 => s_R_within (b0n (fun e3 => bad (by simp [e3])) (fun e3 => ⟨fun _ => ?_, fun q => absurd q (by decide)⟩))))))
  rw [e1, e2, e3] at h
  simp only [Bool.and_self, if_true] at h
  rw [hD.ng, hn, show (8 : Int32) = nI 8 from rfl, nI_le_iff (by omega) (by omega)]
  refine ⟨fun q => ⟨fun q2 => absurd rfl q2, fun _ => ?_⟩, fun q => ⟨fun _ => ?_, fun q2 => absurd q2 (by decide)⟩⟩
  · rw [if_pos (by omega)] at h; exact h.bad2
  · rw [if_neg (by omega)] at h
    rw [hD.ng, hn, nI_clamp (by omega)]
    generalize hN : nn (w 5) = n at *
    have hl := loc_g ⟨n, by omega⟩
    simp only [] at hl
    refine ⟨vin_nI (by omega) (by omega), fun M2 m2 => ⟨vin_nI (by omega) (by omega), fun M3 m3 => ⟨vin_nI (by omega) (by omega), fun M4 m4 => ⟨vin_nI (by omega) (by omega), fun M5 m5 => ⟨vin_nI (by omega) (by omega), fun M6 m6 M7 m7 => ?_⟩⟩⟩⟩⟩
    have ev : M7 2 5 = w 5 + 1 := by rw [m7, ms_at, hn]
    rw [ev]
    refine h.1 rfl M7 ?_ ?_ ?_
    · subst m2 m3 m4 m5 m6 m7
      exact ((((((FrD.refl M).put (by omega) _ _).put (by omega) _ _).put (by omega) _ _).put (by omega) _ _).put (by omega) _ _).put (by omega) _ _
    · rw [nar_bi] at m3 m5
      subst m2 m3 m4 m5 m6 m7
      rw [← hn]
      exact (((((hD.put (i := 12 + 5 * n) (by omega) hl.1 a).put (i := 12 + 5 * n + 1) (by omega) (locS (by omega) hl.2.1) (bi ad)).put (i := 12 + 5 * n + 2) (by omega) (locS (by omega) hl.2.2.1) b).put (i := 12 + 5 * n + 3) (by omega) (locS (by omega) hl.2.2.2.1) (bi bd)).put (i := 12 + 5 * n + 4) (by omega) (locS (by omega) hl.2.2.2.2) c).put (i := 5) (by omega) rfl (w 5 + 1)
    · show Lw M7 (pu5 w 5 (12 + 5 * n) a (bi ad) b (bi bd) c)
      refine hL.ag ⟨fun i hi => ?_, ?_, fun i h1 h2 => ?_⟩ hI.nk.2 (fun c h1 h2 => ?_)
      · unfold pu5; rw [upd_ne _ _ (by omega), upd_ne _ _ (by omega), upd_ne _ _ (by omega), upd_ne _ _ (by omega), upd_ne _ _ (by omega), upd_ne _ _ (by omega)]
      · unfold pu5; rw [upd_ne _ _ (by omega), upd_ne _ _ (by omega), upd_ne _ _ (by omega), upd_ne _ _ (by omega), upd_ne _ _ (by omega), upd_ne _ _ (by omega)]
      · unfold pu5; rw [upd_ne _ _ (by omega), upd_ne _ _ (by omega), upd_ne _ _ (by omega), upd_ne _ _ (by omega), upd_ne _ _ (by omega), upd_ne _ _ (by omega)]
      · rw [m7, ms_off _ _ _ (by omega), m6, ms_off _ _ _ (by omega), m5, ms_off _ _ _ (by omega), m4, ms_off _ _ _ (by omega), m3, ms_off _ _ _ (by omega), m2, ms_off _ _ _ (by omega)]
theorem s_R_known {post : Int32 → Mem → Prop} {ex : String → Mem → Prop} {w : Nat → Int32} {a b : Int32} {dn sp : Bool} {M : Mem} (hD : Dk 1 M w) (hI : WInv w) (h : QD post ex M [IAE, UOE] (oKnown w a dn b sp)) : P_R_known post ex a (bi dn) b (bi sp) M := by
  unfold oKnown at h
  obtain ⟨hn, hn8⟩ := hI.nk
  have bad : (inb a 0 999 && inb b 1000 9999) = false → P_R_known_22 post ex a (bi dn) b (bi sp) M := fun e => ⟨fun q => absurd rfl q, fun _ => by rw [e] at h; exact h.bad1⟩
  refine s_R_within (b0n (fun e1 => bad (by simp [e1])) (fun e1 => s_isWave (b0n (fun e2 => bad (by simp [e2])) (fun e2 => ⟨fun _ => ?_, fun q => absurd q (by decide)⟩))))
  rw [e1, e2] at h
  simp only [Bool.and_self, if_true] at h
  rw [hD.nk, hn, show (10 : Int32) = nI 10 from rfl, nI_le_iff (by omega) (by omega)]
  refine ⟨fun q => ⟨fun q2 => absurd rfl q2, fun _ => ?_⟩, fun q => ⟨fun _ => ?_, fun q2 => absurd q2 (by decide)⟩⟩
  · rw [if_pos (by omega)] at h; exact h.bad2
  · rw [if_neg (by omega)] at h
    rw [hD.nk, hn, nI_clamp (by omega)]
    generalize hN : nn (w 6) = n at *
    have hl := loc_k ⟨n, by omega⟩
    simp only [] at hl
    refine ⟨vin_nI (by omega) (by omega), fun M2 m2 => ⟨vin_nI (by omega) (by omega), fun M3 m3 => ⟨vin_nI (by omega) (by omega), fun M4 m4 => ⟨vin_nI (by omega) (by omega), fun M5 m5 M6 m6 => s_C_forget ?_⟩⟩⟩⟩
    have ev : ms M6 63 12 0 8 4 = w 6 + 1 := by rw [ms_off _ _ _ (by omega), m6, ms_at, hn]
    rw [ev]
    refine h.1 rfl _ ?_ ?_ (Or.inl (ms_at ..))
    · subst m2 m3 m4 m5 m6
      exact ((((((FrD.refl M).put (by omega) _ _).put (by omega) _ _).put (by omega) _ _).put (by omega) _ _).put (by omega) _ _).put (by omega) _ _
    · rw [nar_bi] at m3 m5
      subst m2 m3 m4 m5 m6
      rw [← hn]
      exact (((((hD.put (i := 52 + 4 * n) (by omega) hl.1 a).put (i := 52 + 4 * n + 1) (by omega) (locS (by omega) hl.2.1) (bi dn)).put (i := 52 + 4 * n + 2) (by omega) (locS (by omega) hl.2.2.1) b).put (i := 52 + 4 * n + 3) (by omega) (locS (by omega) hl.2.2.2) (bi sp)).put (i := 6) (by omega) rfl (w 6 + 1)).off (fun c h1 h2 => ms_off _ _ _ (by omega))
theorem s_R_element {post : Int32 → Mem → Prop} {ex : String → Mem → Prop} {w : Nat → Int32} {air : Bool} {M : Mem} (hD : Dk 1 M w) (hI : WInv w) (hL : Lw M w) (h : QD post ex M [UOE] (oElement w air)) : P_R_element post ex (bi air) M := by
  unfold oElement at h
  obtain ⟨hn, hn8⟩ := hI.ne
  unfold P_R_element
  rw [hD.ne, hn, show (6 : Int32) = nI 6 from rfl, nI_le_iff (by omega) (by omega)]
  refine ⟨fun q => ⟨fun q2 => absurd rfl q2, fun _ => ?_⟩, fun q => ⟨fun _ => ?_, fun q2 => absurd q2 (by decide)⟩⟩
  · rw [if_pos (by omega)] at h; exact h.bad1
  · rw [if_neg (by omega)] at h
    rw [hD.ne, hn, nI_clamp (by omega), ← hn]
    generalize hN : nn (w 7) = n at *
    have hl := loc_e ⟨n, by omega⟩
    rw [hn]
    refine ⟨vin_nI (by omega) (by omega), fun M2 m2 => ⟨vin_nI (by omega) (by omega), fun M3 m3 M4 m4 => ?_⟩⟩
    rw [← hn]
    refine h.1 rfl M4 ?_ ?_ ?_
    · subst m2 m3 m4; exact (((FrD.refl M).put (by omega) _ _).put (by omega) _ _).put (by omega) _ _
    · rw [nar_bi] at m2
      subst m2 m3 m4
      rw [← hn]
      exact ((hD.put (i := 92 + 14 * n) (by omega) hl.1 (bi air)).put (i := 93 + 14 * n) (by omega) hl.2 0).put (i := 7) (by omega) rfl (w 7 + 1)
    · show Lw M4 (upd (upd (upd w (92 + 14 * n) (bi air)) (93 + 14 * n) 0) 7 (w 7 + 1))
      refine hL.ag ⟨fun i hi => ?_, ?_, fun i h1 h2 => ?_⟩ hI.nk.2 (fun c h1 h2 => ?_)
      · rw [upd_ne _ _ (by omega), upd_ne _ _ (by omega), upd_ne _ _ (by omega)]
      · rw [upd_ne _ _ (by omega), upd_ne _ _ (by omega), upd_ne _ _ (by omega)]
      · rw [upd_ne _ _ (by omega), upd_ne _ _ (by omega), upd_ne _ _ (by omega)]
      · rw [m4, ms_off _ _ _ (by omega), m3, ms_off _ _ _ (by omega), m2, ms_off _ _ _ (by omega)]
theorem s_R_line {post : Int32 → Mem → Prop} {ex : String → Mem → Prop} {w : Nat → Int32} {e v s : Int32} {M : Mem} (hD : Dk 1 M w) (hI : WInv w) (hL : Lw M w) (h : QD post ex M [IOB, IAE, UOE] (oLine w e v s)) : P_R_line post ex e v s M := by
  unfold oLine at h
  unfold P_R_line
  rw [hD.ne]
  refine s_R_within (s_want (fun c1 => ?_) (fun c1 => ?_))
  · simp only [c1, Bool.not_true, Bool.false_eq_true, if_false] at h
    obtain ⟨he, he7, he6⟩ := hI.ine c1
    have bad : (inb v 1000 9999 && inb s 1 9) = false → P_R_line_41 post ex e v s M := fun e2 => ⟨fun q => absurd rfl q, fun _ => by
      simp only [e2, Bool.not_false, if_true] at h; exact h.bad2⟩
    refine s_isWave (b0n (fun e2 => bad (by simp [e2])) (fun e2 => s_R_within (b0n (fun e3 => bad (by simp [e3])) (fun e3 => ⟨fun _ => ?_, fun q => absurd q (by decide)⟩))))
    simp only [e2, e3, Bool.and_self, Bool.not_true, Bool.false_eq_true, if_false] at h
    obtain ⟨hl, hl6⟩ := hI.nl he6
    rw [he] at ⊢
    generalize nn e = n at *
    rw [nI_clamp (by omega), hD.nl he6, hl, show (6 : Int32) = nI 6 from rfl, nI_le_iff (by omega) (by omega)]
    refine ⟨vin_nI (by omega) (by omega), fun q => ⟨fun q2 => absurd rfl q2, fun _ => ?_⟩, fun q => ⟨fun _ => ?_, fun q2 => absurd q2 (by decide)⟩⟩
    · rw [if_pos (by omega)] at h; exact h.bad3
    · rw [if_neg (by omega)] at h
      rw [nI_clamp (by omega), hD.nl he6]
      generalize hk : nn (w (93 + 14 * n)) = k at *
      have hlo := loc_l ⟨n, he6⟩ ⟨k, by omega⟩
      refine ⟨vin_nI (by omega) (by omega), fun x5 e5 => ?_⟩
      have ex5 : x5 = nI (6 * n + k) := by rw [e5, hl, lit_nI 6, pk_mul, nI_add]; congr 1; omega
      rw [ex5, nI_clamp (by omega)]
      refine ⟨vin_nI (by omega) (by omega), fun M3 m3 => ⟨vin_nI (by omega) (by omega), fun M4 m4 => ⟨vin_nI (by omega) (by omega), fun M5 m5 => ?_⟩⟩⟩
      refine h.1 rfl M5 ?_ ?_ ?_
      · subst m3 m4 m5; exact (((FrD.refl M).put (by omega) _ _).put (by omega) _ _).put (by omega) _ _
      · subst m3 m4 m5
        exact ((hD.put (i := 94 + 14 * n + 2 * k) (by omega) hlo.1 v).put (i := 95 + 14 * n + 2 * k) (by omega) hlo.2 s).put (i := 93 + 14 * n) (by omega) (loc_e ⟨n, he6⟩).2 (w (93 + 14 * n) + 1)
      · show Lw M5 (upd (upd (upd w (94 + 14 * n + 2 * k) v) (95 + 14 * n + 2 * k) s) (93 + 14 * n) (w (93 + 14 * n) + 1))
        refine hL.ag ⟨fun i hi => ?_, ?_, fun i h1 h2 => ?_⟩ hI.nk.2 (fun c h1 h2 => ?_)
        · rw [upd_ne _ _ (by omega), upd_ne _ _ (by omega), upd_ne _ _ (by omega)]
        · rw [upd_ne _ _ (by omega), upd_ne _ _ (by omega), upd_ne _ _ (by omega)]
        · rw [upd_ne _ _ (by omega), upd_ne _ _ (by omega), upd_ne _ _ (by omega)]
        · rw [m5, ms_off _ _ _ (by omega), m4, ms_off _ _ _ (by omega), m3, ms_off _ _ _ (by omega)]
  · simp only [c1, Bool.not_false, if_true] at h; exact h.bad1
theorem s_R_plate {post : Int32 → Mem → Prop} {ex : String → Mem → Prop} {w : Nat → Int32} {a b c d e : Int32} {M : Mem} (hD : Dk 1 M w) (hI : WInv w) (hL : Lw M w) (h : QD post ex M [IAE, UOE] (oPlate w a b c d e)) : P_R_plate post ex a b c d e M := by
  unfold oPlate at h
  obtain ⟨hn, hn8⟩ := hI.np
  have bad : (inb a 1 9 && inb b 1 5 && inb c 1000 9999 && inb d 1000 9999 && decide (¬ d < c) && inb e 0 500) = false → ex IAE M := fun q => by rw [q] at h; exact h.bad1
  have b35 : (inb a 1 9 && inb b 1 5 && inb c 1000 9999 && inb d 1000 9999 && decide (¬ d < c) && inb e 0 500) = false → P_R_plate_35 post ex a b c d e M := fun q => ⟨fun q => absurd rfl q, fun _ => bad q⟩
  have b64 : (inb a 1 9 && inb b 1 5 && inb c 1000 9999 && inb d 1000 9999 && decide (¬ d < c) && inb e 0 500) = false → P_R_plate_64 post ex a b c d e M := fun q => ⟨fun q => absurd rfl q, fun _ => bad q⟩
  refine s_R_within (b0n (fun e1 => b35 (by simp [e1])) (fun e1 => s_R_within (b0n (fun e2 => b35 (by simp [e2])) (fun e2 => s_R_within (b0n (fun e6 => b35 (by simp [e6])) (fun e6 => ⟨fun _ => s_isWave (b0n (fun e3 => b64 (by simp [e3])) (fun e3 => s_isWave (b0n (fun e4 => b64 (by simp [e4])) (fun e4 => ⟨fun e5 => b64 (by simp [e5]), fun e5 => ⟨fun _ => ?_, fun q => absurd q (by decide)⟩⟩)))), fun q => absurd q (by decide)⟩))))))
  rw [e1, e2, e3, e4, decide_eq_true e5, e6] at h
  simp only [Bool.and_self, if_true] at h
  rw [hD.np, hn, show (3 : Int32) = nI 3 from rfl, nI_le_iff (by omega) (by omega)]
  refine ⟨fun q => ⟨fun q2 => absurd rfl q2, fun _ => ?_⟩, fun q => ⟨fun _ => ?_, fun q2 => absurd q2 (by decide)⟩⟩
  · rw [if_pos (by omega)] at h; exact h.bad2
  · rw [if_neg (by omega)] at h
    rw [hD.np, hn, nI_clamp (by omega), ← hn]
    generalize hN : nn (w 8) = n at *
    rw [hn]
    have hl := loc_p ⟨n, by omega⟩
    simp only [] at hl
    refine ⟨vin_nI (by omega) (by omega), fun M2 m2 => ⟨vin_nI (by omega) (by omega), fun M3 m3 => ⟨vin_nI (by omega) (by omega), fun M4 m4 => ⟨vin_nI (by omega) (by omega), fun M5 m5 => ⟨vin_nI (by omega) (by omega), fun M6 m6 M7 m7 => ?_⟩⟩⟩⟩⟩
    rw [← hn]
    refine h.1 rfl M7 ?_ ?_ ?_
    · subst m2 m3 m4 m5 m6 m7
      exact ((((((FrD.refl M).put (by omega) _ _).put (by omega) _ _).put (by omega) _ _).put (by omega) _ _).put (by omega) _ _).put (by omega) _ _
    · subst m2 m3 m4 m5 m6 m7
      rw [← hn]
      exact (((((hD.put (i := 176 + 5 * n) (by omega) hl.1 a).put (i := 176 + 5 * n + 1) (by omega) (locS (by omega) hl.2.1) b).put (i := 176 + 5 * n + 2) (by omega) (locS (by omega) hl.2.2.1) c).put (i := 176 + 5 * n + 3) (by omega) (locS (by omega) hl.2.2.2.1) d).put (i := 176 + 5 * n + 4) (by omega) (locS (by omega) hl.2.2.2.2) e).put (i := 8) (by omega) rfl (w 8 + 1)
    · show Lw M7 (pu5 w 8 (176 + 5 * n) a b c d e)
      refine hL.ag ⟨fun i hi => ?_, ?_, fun i h1 h2 => ?_⟩ hI.nk.2 (fun c h1 h2 => ?_)
      · unfold pu5; rw [upd_ne _ _ (by omega), upd_ne _ _ (by omega), upd_ne _ _ (by omega), upd_ne _ _ (by omega), upd_ne _ _ (by omega), upd_ne _ _ (by omega)]
      · unfold pu5; rw [upd_ne _ _ (by omega), upd_ne _ _ (by omega), upd_ne _ _ (by omega), upd_ne _ _ (by omega), upd_ne _ _ (by omega), upd_ne _ _ (by omega)]
      · unfold pu5; rw [upd_ne _ _ (by omega), upd_ne _ _ (by omega), upd_ne _ _ (by omega), upd_ne _ _ (by omega), upd_ne _ _ (by omega), upd_ne _ _ (by omega)]
      · rw [m7, ms_off _ _ _ (by omega), m6, ms_off _ _ _ (by omega), m5, ms_off _ _ _ (by omega), m4, ms_off _ _ _ (by omega), m3, ms_off _ _ _ (by omega), m2, ms_off _ _ _ (by omega)]
theorem s_wantPlate {post : Mem → Prop} {ex : String → Mem → Prop} {w : Nat → Int32} {p : Int32} {M : Mem} (hD : Dk 1 M w) (ht : inb p 0 (w 8 - 1) = true → post M) (hf : inb p 0 (w 8 - 1) = false → ex IOB M) : P_R_wantPlate post ex p M := by
  unfold P_R_wantPlate
  rw [hD.np]
  exact s_R_within (s_want ht hf)
theorem s_wantElement {post : Mem → Prop} {ex : String → Mem → Prop} {w : Nat → Int32} {p : Int32} {M : Mem} (hD : Dk 1 M w) (ht : inb p 0 (w 7 - 1) = true → post M) (hf : inb p 0 (w 7 - 1) = false → ex IOB M) : P_R_wantElement post ex p M := by
  unfold P_R_wantElement
  rw [hD.ne]
  exact s_R_within (s_want ht hf)
theorem s_wantMaker {post : Mem → Prop} {ex : String → Mem → Prop} {w : Nat → Int32} {p : Int32} {M : Mem} (hD : Dk 1 M w) (ht : inb p 0 (w 11 - 1) = true → post M) (hf : inb p 0 (w 11 - 1) = false → ex IOB M) : P_R_wantMaker post ex p M := by
  unfold P_R_wantMaker
  rw [hD.nm]
  exact s_R_within (s_want ht hf)
theorem s_wantSpeed {post : Mem → Prop} {ex : String → Mem → Prop} {v : Int32} {M : Mem} (ht : inb v (-50) 50 = true → post M) (hf : inb v (-50) 50 = false → ex IAE M) : P_R_wantSpeed post ex v M := s_R_within (s_want ht hf)
theorem s_wantLine {post : Mem → Prop} {ex : String → Mem → Prop} {w : Nat → Int32} {e l : Int32} {M : Mem} (hD : Dk 1 M w) (hI : WInv w) (ht : lnB w e l = true → post M) (hf : lnB w e l = false → ex IOB M) : P_R_wantLine post ex e l M := by
  refine s_wantElement hD (fun c => ?_) (fun c => hf (by simp [lnB, c]))
  obtain ⟨he, he7, he6⟩ := hI.ine c
  have e2 : lnB w e l = inb l 0 (w (93 + 14 * nn e) - 1) := by simp only [lnB, c, Bool.true_and]
  rw [e2] at ht hf
  rw [he]
  generalize nn e = n at *
  rw [nI_clamp (by omega), hD.nl he6]
  exact ⟨vin_nI (by omega) (by omega), s_R_within (s_want ht hf)⟩
theorem s_R_reading {post : Int32 → Mem → Prop} {ex : String → Mem → Prop} {w : Nat → Int32} {p a s v : Int32} {dn : Bool} {M : Mem} (hD : Dk 1 M w) (hI : WInv w) (hL : Lw M w) (h : QD post ex M [IOB, IAE, UOE] (oReading w p a dn s v)) : P_R_reading post ex p a (bi dn) s v M := by
  unfold oReading at h
  obtain ⟨hn, hn8⟩ := hI.nr
  refine s_wantPlate hD (fun c1 => ?_) (fun c1 => ?_)
  · simp only [c1, Bool.not_true, Bool.false_eq_true, if_false] at h
    have bad : (inb a 0 999 && inb s 1 9 && inb v 1 9) = false → P_R_reading_42 post ex p a (bi dn) s v M := fun e2 => ⟨fun q => absurd rfl q, fun _ => by
      simp only [e2, Bool.not_false, if_true] at h; exact h.bad2⟩
    refine s_R_within (b0n (fun e1 => bad (by simp [e1])) (fun e1 => s_R_within (b0n (fun e2 => bad (by simp [e2])) (fun e2 => s_R_within (b0n (fun e3 => bad (by simp [e3])) (fun e3 => ⟨fun _ => ?_, fun q => absurd q (by decide)⟩))))))
    simp only [e1, e2, e3, Bool.and_self, Bool.not_true, Bool.false_eq_true, if_false] at h
    rw [hD.nr, hn, show (24 : Int32) = nI 24 from rfl, nI_le_iff (by omega) (by omega)]
    refine ⟨fun q => ⟨fun q2 => absurd rfl q2, fun _ => ?_⟩, fun q => ⟨fun _ => ?_, fun q2 => absurd q2 (by decide)⟩⟩
    · rw [if_pos (by omega)] at h; exact h.bad3
    · rw [if_neg (by omega)] at h
      rw [hD.nr, hn, nI_clamp (by omega), ← hn]
      generalize hN : nn (w 9) = n at *
      rw [hn]
      have hl := loc_r ⟨n, by omega⟩
      simp only [] at hl
      refine ⟨vin_nI (by omega) (by omega), fun M2 m2 => ⟨vin_nI (by omega) (by omega), fun M3 m3 => ⟨vin_nI (by omega) (by omega), fun M4 m4 => ⟨vin_nI (by omega) (by omega), fun M5 m5 => ⟨vin_nI (by omega) (by omega), fun M6 m6 M7 m7 => ?_⟩⟩⟩⟩⟩
      rw [← hn]
      refine h.1 rfl M7 ?_ ?_ ?_
      · subst m2 m3 m4 m5 m6 m7
        exact ((((((FrD.refl M).put (by omega) _ _).put (by omega) _ _).put (by omega) _ _).put (by omega) _ _).put (by omega) _ _).put (by omega) _ _
      · rw [nar_bi] at m4
        subst m2 m3 m4 m5 m6 m7
        rw [← hn]
        exact (((((hD.put (i := 191 + 5 * n) (by omega) hl.1 p).put (i := 191 + 5 * n + 1) (by omega) (locS (by omega) hl.2.1) a).put (i := 191 + 5 * n + 2) (by omega) (locS (by omega) hl.2.2.1) (bi dn)).put (i := 191 + 5 * n + 3) (by omega) (locS (by omega) hl.2.2.2.1) s).put (i := 191 + 5 * n + 4) (by omega) (locS (by omega) hl.2.2.2.2) v).put (i := 9) (by omega) rfl (w 9 + 1)
      · show Lw M7 (pu5 w 9 (191 + 5 * n) p a (bi dn) s v)
        refine hL.ag ⟨fun i hi => ?_, ?_, fun i h1 h2 => ?_⟩ hI.nk.2 (fun c h1 h2 => ?_)
        · unfold pu5; rw [upd_ne _ _ (by omega), upd_ne _ _ (by omega), upd_ne _ _ (by omega), upd_ne _ _ (by omega), upd_ne _ _ (by omega), upd_ne _ _ (by omega)]
        · unfold pu5; rw [upd_ne _ _ (by omega), upd_ne _ _ (by omega), upd_ne _ _ (by omega), upd_ne _ _ (by omega), upd_ne _ _ (by omega), upd_ne _ _ (by omega)]
        · unfold pu5; rw [upd_ne _ _ (by omega), upd_ne _ _ (by omega), upd_ne _ _ (by omega), upd_ne _ _ (by omega), upd_ne _ _ (by omega), upd_ne _ _ (by omega)]
        · rw [m7, ms_off _ _ _ (by omega), m6, ms_off _ _ _ (by omega), m5, ms_off _ _ _ (by omega), m4, ms_off _ _ _ (by omega), m3, ms_off _ _ _ (by omega), m2, ms_off _ _ _ (by omega)]
  · simp only [c1, Bool.not_false, if_true] at h; exact h.bad1
theorem s_R_away {post : Int32 → Mem → Prop} {w : Nat → Int32} {M : Mem} (hD : Dk 1 M w) (hI : WInv w) (hL : Lw M w) (h : ∀ M', FrD M M' → Dk 1 M' (oAway w).2.2 → Lw M' (oAway w).2.2 → post (oAway w).2.1 M') : P_R_away post M := by
  unfold oAway at h
  unfold P_R_away
  rw [hD.nr]
  refine ⟨fun c M1 m1 => ?_, fun c => ?_⟩
  · rw [if_neg c] at h
    have e : M1 18 11 = w 9 - 1 := by rw [m1, ms_at]
    rw [e]
    have hL2 : Lw M1 (upd w 9 (w 9 - 1)) := hL.ag ⟨fun i hi => upd_ne _ _ (by omega), upd_ne _ _ (by omega), fun i h1 h2 => upd_ne _ _ (by omega)⟩ hI.nk.2 (fun c h1 h2 => by rw [m1, ms_off _ _ _ (by omega)])
    exact h M1 (by subst m1; exact (FrD.refl M).put (by omega) _ _) (by subst m1; exact hD.put (i := 9) (by omega) rfl _) hL2
  · rw [if_pos c] at h
    exact h M (FrD.refl M) hD hL
