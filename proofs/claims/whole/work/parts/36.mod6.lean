/-! THE REFERENCE: ends of spans, drifts, spans; laws, law, span, slipped, look -/
def okA (w : Nat → Int32) (k : Nat) : Bool := decide (loA w 0 (kb k) (kc k) ≤ hiA w 0 (kb k) (kc k))
def wvA (w : Nat → Int32) (z : Int) (most : Bool) (k : Nat) : Int := (if most then hiA w 0 (kb k) (kc k) + (w 4).toInt else loA w 0 (kb k) (kc k) - (w 4).toInt) + abZ (kb k) (kc k) z
def enF (w : Nat → Int32) (z : Int) (most : Bool) : Nat → Int
  | 0 => -99999
  | k + 1 => if okA w k then (if enF w z most k = -99999 then wvA w z most k else if most then max (enF w z most k) (wvA w z most k) else min (enF w z most k) (wvA w z most k)) else enF w z most k
def edZ (w : Nat → Int32) (z : Int) (most : Bool) : Int := enF w z most 1710
theorem loA_bd {w : Nat → Int32} (hI : WInv w) {s b c : Int} (hs : -30 ≤ s ∧ s ≤ 30) (hb : -90 ≤ b ∧ b ≤ 90) (hc : -9 ≤ c ∧ c ≤ 9) : 0 ≤ loA w s b c ∧ loA w s b c ≤ 31000 := loF_bd hI hs hb hc _ hI.nk.2
theorem hiA_bd {w : Nat → Int32} (hI : WInv w) {s b c : Int} (hs : -30 ≤ s ∧ s ≤ 30) (hb : -90 ≤ b ∧ b ≤ 90) (hc : -9 ≤ c ∧ c ≤ 9) : -31000 ≤ hiA w s b c ∧ hiA w s b c ≤ 9999 := hiF_bd hI hs hb hc _ hI.nk.2
theorem wvA_bd {w : Nat → Int32} (hI : WInv w) {z : Int} (hz : -1047 ≤ z ∧ z ≤ 1047) {most : Bool} {k : Nat} (hk : k < 1710) : -60000 ≤ wvA w z most k ∧ wvA w z most k ≤ 60000 := by
  have h1 := loA_bd hI (s := 0) (by omega) (kb_bd hk) (kc_bd k)
  have h2 := hiA_bd hI (s := 0) (by omega) (kb_bd hk) (kc_bd k)
  have h3 := abZ_bd (kb_bd hk) (kc_bd k) hz
  have h4 := hI.er
  unfold rg at h4
  unfold wvA
  split <;> omega
theorem enF_bd {w : Nat → Int32} (hI : WInv w) {z : Int} (hz : -1047 ≤ z ∧ z ≤ 1047) {most : Bool} : ∀ k, k ≤ 1710 → -99999 ≤ enF w z most k ∧ enF w z most k ≤ 60000
  | 0, _ => by simp [enF]
  | k + 1, h => by
    have h1 := enF_bd hI hz (most := most) k (by omega)
    have h2 := wvA_bd hI hz (most := most) (k := k) (by omega)
    simp only [enF]
    split
    · split
      · omega
      · split <;> omega
    · exact h1
theorem s_M_endOf {post : Int32 → Mem → Prop} {z : Int} {most : Bool} {M : Mem} (hI : WInv (M 1)) (hL : LaOK (M 1) 0 M 1710) (hz : -1047 ≤ z ∧ z ≤ 1047) (h : post (I (edZ (M 1) z most)) M) : P_M_endOf post (I z) (bi most) M := by
  have key : ∀ (d k : Nat), k + d = 1710 → P_M_endOf_6 post (d + 1) (I z) (bi most) (I (enF (M 1) z most k)) (nI k) M := by
    intro d
    induction d with
    | zero =>
      intro k hk
      refine ⟨fun c => ?_, fun c => ?_⟩
      · have e : k = 1710 := by omega
        subst e
        exact h
      · exact absurd (show (1710 : Int32) ≤ nI k by rw [show (1710 : Int32) = nI 1710 from rfl, nI_le_iff (by omega) (by omega)]; omega) c
    | succ d ih =>
      intro k hk
      have hk2 : k < 1710 := by omega
      have hlo := loA_bd hI (s := 0) (by omega) (kb_bd hk2) (kc_bd k)
      have hhi := hiA_bd hI (s := 0) (by omega) (kb_bd hk2) (kc_bd k)
      have hwv := wvA_bd hI hz (most := most) hk2
      have hen := enF_bd hI hz (most := most) k (by omega)
      have next : ∀ x : Int32, x = I (enF (M 1) z most (k + 1)) → P_M_endOf_109 post (P_M_endOf_6 post (d + 1)) (I z) (bi most) x (nI k) M := by
        intro x hx
        have := ih (k + 1) (by omega)
        rw [← nI_1, ← hx] at this
        exact this
      refine ⟨fun c => ?_, fun c => ?_⟩
      · rw [show (1710 : Int32) = nI 1710 from rfl, nI_le_iff (by omega) (by omega)] at c; omega
      · refine ⟨vin_nI hk2 (by omega), vin_nI hk2 (by omega), ?_⟩
        rw [nI_clamp (by omega), (hL k hk2).1, (hL k hk2).2, I_le (by omega) (by omega)]
        have e4 : M 1 (4 : Int32).toNatClampNeg = I (M 1 4).toInt := I_ofS _
        have go : okA (M 1) k = true → ∀ s0 : Int, s0 + abZ (kb k) (kc k) z = wvA (M 1) z most k → P_M_endOf_69 post (P_M_endOf_6 post (d + 1)) (I z) (bi most) (I (enF (M 1) z most k)) (nI k) (I s0) M := by
          intro hok s0 hs0
          refine s_M_above hk2 hz ?_
          intro x5 e5
          rw [I_add, hs0] at e5
          subst e5
          rw [show (-99999 : Int32) = I (-99999) from rfl, I_eq (by omega) (by omega)]
          refine ⟨fun c3 => b0n (fun em => s_min ?_) (fun em => s_max ?_), fun c3 => ?_⟩
          · refine next _ ?_
            rw [I_min (by omega) (by omega)]
            rw [em] at c3 ⊢
            simp [enF, hok, c3]
          · refine next _ ?_
            rw [I_max (by omega) (by omega)]
            rw [em] at c3 ⊢
            simp [enF, hok, c3]
          · refine next _ ?_
            simp [enF, hok, c3]
        refine ⟨fun c2 => b0n (fun em => ?_) (fun em => ?_), fun c2 => ?_⟩
        · refine ⟨vin_nI hk2 (by omega), vin_nI (n := 4) (by omega) (by omega), ?_⟩
          rw [e4, I_sub]
          exact go (by simp [okA, c2]) _ (by simp [wvA, em])
        · refine ⟨vin_nI hk2 (by omega), vin_nI (n := 4) (by omega) (by omega), ?_⟩
          rw [e4, I_add]
          exact go (by simp [okA, c2]) _ (by simp [wvA, em])
        · exact next _ (by simp [enF, okA, c2])
  exact ⟨1710 + 1, key 1710 0 (by omega)⟩
/-- the place of a reading, where those of plate p drifted -/
def plZ (w : Nat → Int32) (p : Int32) (by_ : Int) (r : Nat) : Int := (tpl w (w (192 + 5 * r)) (w (193 + 5 * r))).toInt + if w (191 + 5 * r) = p then by_ else 0
def SpOK (w : Nat → Int32) (p : Int32) (by_ : Int) (lo hi : Nat → Int32) (n : Nat) : Prop := ∀ r, r < n → lo r = I (edZ w (plZ w p by_ r) false) ∧ hi r = I (edZ w (plZ w p by_ r) true)
theorem plZ_bd {w : Nat → Int32} (hI : WInv w) {p : Int32} {t : Int} (ht : -30 ≤ t ∧ t ≤ 30) {r : Nat} (hr : r < 24) : -39 ≤ plZ w p t r ∧ plZ w p t r ≤ 1047 := by
  have h1 := hI.tp (d := w (193 + 5 * r)) (hI.rd hr).2.1
  unfold plZ
  unfold rg at h1
  split <;> omega
theorem LaOK.mono {w : Nat → Int32} {s : Int} {M M' : Mem} {n : Nat} (h : LaOK w s M n) (h3 : M' 3 = M 3) (h4 : M' 4 = M 4) : LaOK w s M' n := by
  intro k hk; rw [h3, h4]; exact h k hk
theorem s_M_drifts {post : Mem → Prop} {p : Int32} {t : Int} {M : Mem} (hI : WInv (M 1)) (hL : LaOK (M 1) 0 M 1710) (ht : -30 ≤ t ∧ t ≤ 30) (h : ∀ M', (∀ c, c ≠ 5 → c ≠ 6 → M' c = M c) → SpOK (M 1) p t (M' 5) (M' 6) (nn (M 1 9)) → post M') : P_M_drifts post p (I t) M := by
  obtain ⟨hn, hn24⟩ := hI.nr
  have key : ∀ (d r : Nat), r + d = nn (M 1 9) → ∀ M', (∀ c, c ≠ 5 → c ≠ 6 → M' c = M c) → SpOK (M 1) p t (M' 5) (M' 6) r → P_M_drifts_2 post (d + 1) p (I t) (nI r) M' := by
    intro d
    induction d with
    | zero =>
      intro r hr M' hM hS
      have e1 : M' 1 = M 1 := hM 1 (by omega) (by omega)
      refine s_M_readings ⟨fun c => ?_, fun c => ?_⟩
      · exact h M' hM (by rw [show nn (M 1 9) = r by omega]; exact hS)
      · rw [e1, hn, nI_le_iff (by omega) (by omega)] at c; omega
    | succ d ih =>
      intro r hr M' hM hS
      have e1 : M' 1 = M 1 := hM 1 (by omega) (by omega)
      have hr24 : r < 24 := by omega
      have hpl := plZ_bd hI (p := p) ht hr24
      have hL' : LaOK (M 1) 0 M' 1710 := hL.mono (hM 3 (by omega) (by omega)) (hM 4 (by omega) (by omega))
      have go : ∀ s1 : Int, plZ (M 1) p t r = (tpl (M 1) (M 1 (192 + 5 * r)) (M 1 (193 + 5 * r))).toInt + s1 → P_M_drifts_41 post (P_M_drifts_2 post (d + 1)) p (I t) (nI r) (tpl (M 1) (M 1 (192 + 5 * r)) (M 1 (193 + 5 * r))) (I s1) M' := by
        intro s1 hs1 x4 e4
        rw [I_ofS (tpl (M 1) (M 1 (192 + 5 * r)) (M 1 (193 + 5 * r))), I_add, ← hs1] at e4
        subst e4
        refine s_M_endOf (most := false) (by rw [e1]; exact hI) (by rw [e1]; exact hL') (by omega) ⟨vin_nI hr24 (by omega), fun M3 e3 => ?_⟩
        rw [nI_clamp (by omega), e1] at e3
        have e13 : M3 1 = M 1 := by rw [e3, ms_off _ _ _ (by omega), e1]
        refine s_M_endOf (most := true) (by rw [e13]; exact hI) (by rw [e13]; exact hL'.mono (by rw [e3, ms_off _ _ _ (by omega)]) (by rw [e3, ms_off _ _ _ (by omega)])) (by omega) ⟨vin_nI hr24 (by omega), fun M5 e5 => ?_⟩
        rw [nI_clamp (by omega), e13] at e5
        subst e5 e3
        rw [nI_1]
        refine ih (r + 1) (by omega) _ (fun c h5 h6 => ?_) (fun j hj => ?_)
        · rw [ms_off _ _ _ h6, ms_off _ _ _ h5, hM c h5 h6]
        · by_cases hj2 : j = r
          · subst hj2
            constructor <;> simp [ms]
          · have := hS j (by omega)
            constructor
            · simp [ms, hj2, this.1]
            · simp [ms, hj2, this.2]
      refine s_M_readings ⟨fun c => ?_, fun c => s_M_of (k := 1) hr24 (by omega) (s_M_of (k := 2) hr24 (by omega) (s_M_truePlace (by rw [e1]; exact hI.per) (s_M_of (k := 0) hr24 (by omega) ?_)))⟩
      · rw [e1, hn, nI_le_iff (by omega) (by omega)] at c; omega
      · rw [e1, show 191 + 5 * r + 1 = 192 + 5 * r by omega, show 191 + 5 * r + 2 = 193 + 5 * r by omega, show 191 + 5 * r + 0 = 191 + 5 * r by omega]
        refine ⟨fun c2 => go 0 (by simp [plZ, c2]), fun c2 => go t (by simp [plZ, c2])⟩
  exact ⟨nn (M 1 9) + 1, key (nn (M 1 9)) 0 (by omega) M (fun c _ _ => rfl) (fun r hr => by omega)⟩
theorem s_M_spans {post : Mem → Prop} {M : Mem} (hI : WInv (M 1)) (h : ∀ M', (∀ c, c ≠ 3 → c ≠ 4 → c ≠ 5 → c ≠ 6 → M' c = M c) → LaOK (M 1) 0 M' 1710 → SpOK (M 1) (-1) 0 (M' 5) (M' 6) (nn (M 1 9)) → post M') : P_M_spans post M := by
  refine s_M_lays (s := 0) hI (by omega) (fun M1 h1 hL => ?_)
  have e1 : M1 1 = M 1 := h1 1 (by omega) (by omega)
  refine s_M_drifts (t := 0) (by rw [e1]; exact hI) (by rw [e1]; exact hL) (by omega) (fun M2 h2 hS => ?_)
  rw [e1] at hS
  exact h M2 (fun c c3 c4 c5 c6 => by rw [h2 c c5 c6, h1 c c3 c4]) (hL.mono (h2 3 (by omega) (by omega)) (h2 4 (by omega) (by omega))) hS
/-- what lasts of the reference -/
def MSame (M M' : Mem) : Prop := M' 1 = M 1 ∧ M' 2 = M 2 ∧ M' 10 = M 10 ∧ M' 0 3 = M 0 3 ∧ M' 0 19 = M 0 19 ∧ M' 0 24 = M 0 24
/-- a question answered: what was thrown, the answer; nothing that lasts has changed -/
def Qr (post : Int32 → Mem → Prop) (M : Mem) (q : Int32 × Int32) : Prop := ∀ M', MSame M M' → M' 0 0 = q.1 → post q.2 M'
theorem thr_same (M : Mem) (k : Int32) : MSame M (thr M k) := by
  refine ⟨ms_off _ _ _ (by omega), ms_off _ _ _ (by omega), ms_off _ _ _ (by omega), ?_, ?_, ?_⟩ <;> simp [thr, ms]
theorem thr_0 (M : Mem) (k : Int32) : thr M k 0 0 = k := by simp [thr, ms]
theorem thr_off (M : Mem) (k : Int32) {c : Nat} (h : c ≠ 0) : thr M k c = M c := ms_off _ _ _ h
theorem MSame.trans {A B C : Mem} (h1 : MSame A B) (h2 : MSame B C) : MSame A C := by
  obtain ⟨a1, a2, a3, a4, a5, a6⟩ := h1
  obtain ⟨b1, b2, b3, b4, b5, b6⟩ := h2
  exact ⟨b1.trans a1, b2.trans a2, b3.trans a3, b4.trans a4, b5.trans a5, b6.trans a6⟩
theorem MSame.refl (A : Mem) : MSame A A := ⟨rfl, rfl, rfl, rfl, rfl, rfl⟩
theorem MSame.of {A B : Mem} (h : ∀ c, c = 0 ∨ c = 1 ∨ c = 2 ∨ c = 10 → B c = A c) : MSame A B := by
  have h0 := h 0 (by omega)
  exact ⟨h 1 (by omega), h 2 (by omega), h 10 (by omega), by rw [h0], by rw [h0], by rw [h0]⟩
/-- what was thrown, and the answer -/
abbrev qi (k v : Int32) : Int32 × Int32 := (k, v)
theorem s_M_laws {post : Int32 → Mem → Prop} {M : Mem} (hI : WInv (M 1)) (h : Qr post M (qi 0 (I (toA (M 1) 0)))) : P_M_laws post M := by
  intro M1 e1
  have e2 : M1 = thr M 0 := e1
  subst e2
  have e3 : thr M 0 1 = M 1 := thr_off _ _ (by omega)
  refine s_M_lays (s := 0) (by rw [e3]; exact hI) (by omega) (fun M2 h2 hL => ?_)
  rw [e3]
  exact h M2 ((thr_same M 0).trans (MSame.of fun c hc => h2 c (by omega) (by omega))) (by rw [h2 0 (by omega) (by omega)]; exact thr_0 M 0)
/-- the first law -/
def lwF (w : Nat → Int32) (what : Int32) : Nat → Int32
  | 0 => 99999
  | d + 1 => if okA w (1710 - (d + 1)) then (if what = 0 then I (loA w 0 (kb (1710 - (d + 1))) (kc (1710 - (d + 1)))) else if what = 1 then I (kb (1710 - (d + 1))) else I (kc (1710 - (d + 1)))) else lwF w what d
theorem s_M_law {post : Int32 → Mem → Prop} {what : Int32} {M : Mem} (hI : WInv (M 1)) (h : Qr post M (if inb what 0 2 then qi 0 (lwF (M 1) what 1710) else qi 1 0)) : P_M_law post what M := by
  intro M1 e1
  have e2 : M1 = thr M 0 := e1
  subst e2
  have e3 : thr M 0 1 = M 1 := thr_off _ _ (by omega)
  refine s_M_in (bn0 (fun e => ?_) (fun e => ?_))
  · refine s_M_throwsIf (b := true) ⟨fun c => absurd c (by decide), fun _ => ?_⟩
    rw [e] at h
    exact h _ ((thr_same M 0).trans (thr_same _ 1)) (thr_0 _ _)
  · refine s_M_throwsIf (b := false) ⟨fun _ => ?_, fun c => absurd rfl c⟩
    rw [e] at h
    refine s_M_lays (s := 0) (by simp only [Bool.false_eq_true, if_false]; rw [e3]; exact hI) (by omega) (fun M2 h2 hL => ?_)
    simp only [Bool.false_eq_true, if_false] at h2 hL
    rw [e3] at hL
    have hs : MSame M M2 := (thr_same M 0).trans (MSame.of fun c hc => h2 c (by omega) (by omega))
    have h0 : M2 0 0 = 0 := by rw [h2 0 (by omega) (by omega)]; exact thr_0 M 0
    have h := h M2 hs h0
    have key : ∀ (d k : Nat), k + d = 1710 → lwF (M 1) what d = lwF (M 1) what 1710 → P_M_law_37 post (d + 1) what (nI k) M2 := by
      intro d
      induction d with
      | zero =>
        intro k hk hl
        refine ⟨fun c => ?_, fun c => ?_⟩
        · rw [if_pos rfl, ← hl] at h; exact h
        · exact absurd (show (1710 : Int32) ≤ nI k by rw [show (1710 : Int32) = nI 1710 from rfl, nI_le_iff (by omega) (by omega)]; omega) c
      | succ d ih =>
        intro k hk hl
        have hk2 : k < 1710 := by omega
        have ek : 1710 - (d + 1) = k := by omega
        have hlo := loA_bd hI (s := 0) (by omega) (kb_bd hk2) (kc_bd k)
        have hhi := hiA_bd hI (s := 0) (by omega) (kb_bd hk2) (kc_bd k)
        refine ⟨fun c => ?_, fun c => ⟨vin_nI hk2 (by omega), vin_nI hk2 (by omega), ?_⟩⟩
        · rw [show (1710 : Int32) = nI 1710 from rfl, nI_le_iff (by omega) (by omega)] at c; omega
        rw [nI_clamp (by omega), (hL k hk2).1, (hL k hk2).2, I_lt (by omega) (by omega), nI_1]
        refine ⟨fun c2 => ih (k + 1) (by omega) ?_, fun c2 => ?_⟩
        · rw [← hl]; simp only [lwF, ek, okA]; rw [if_neg (by simpa using c2)]
        · have hok : okA (M 1) k = true := by simp only [okA, decide_eq_true_eq]; omega
          rw [if_pos rfl, ← hl] at h
          simp only [lwF, ek, hok, if_true] at h
          refine ⟨fun c3 => ⟨fun c4 => ?_, fun c4 => ?_⟩, fun c3 => ⟨vin_nI hk2 (by omega), ?_⟩⟩
          · rw [if_neg c3, if_neg c4] at h
            have e3 : irm (nI k) 19 - 9 = I (kc k) := by rw [nI_I, I_nat 19, I_rem (by omega) (by omega), I_nat 9, I_sub]; rfl
            rw [e3]; exact h
          · rw [if_neg c3, if_pos c4] at h
            have e3 : nI k / 19 + 1 = I (kb k) := by rw [nI_I, I_nat 19, I_div (by omega) (by omega), I_nat 1, I_add]; rfl
            rw [e3]; exact h
          · rw [if_pos c3] at h; exact h
    exact ⟨1710 + 1, key 1710 0 (by omega) rfl⟩
theorem s_M_span {post : Int32 → Mem → Prop} {p : Int32} {dn most : Bool} {M : Mem} (hI : WInv (M 1)) (h : Qr post M (if inb p 0 999 then qi 0 (I (edZ (M 1) (tpl (M 1) p (bi dn)).toInt most)) else qi 1 0)) : P_M_span post p (bi dn) (bi most) M := by
  intro M1 e1
  have e2 : M1 = thr M 0 := e1
  subst e2
  have e3 : thr M 0 1 = M 1 := thr_off _ _ (by omega)
  refine s_M_noPlace (s_M_throwsIf ?_)
  refine b0n (fun e => ?_) (fun e => ?_)
  · have e' : inb p 0 999 = true := by simpa using e
    rw [e'] at h
    rw [e]
    refine s_M_lays (s := 0) (by simp only [Bool.false_eq_true, if_false]; rw [e3]; exact hI) (by omega) (fun M2 h2 hL => ?_)
    simp only [Bool.false_eq_true, if_false] at h2 hL
    rw [e3] at hL
    have hs : MSame M M2 := (thr_same M 0).trans (MSame.of fun c hc => h2 c (by omega) (by omega))
    have h0 : M2 0 0 = 0 := by rw [h2 0 (by omega) (by omega)]; exact thr_0 M 0
    have h := h M2 hs h0
    have hp : rg p 0 999 := by
      simp only [inb, decide_eq_true_eq, leI] at e'
      exact ⟨by simpa using e'.1, by simpa using e'.2⟩
    have fin : P_M_span_37 post (bi most) p (bi dn) M2 := by
      refine s_M_truePlace (by rw [hs.1]; exact hI.per) ?_
      rw [hs.1, I_ofS (tpl (M 1) p (bi dn))]
      have := hI.tp (d := bi dn) hp
      unfold rg at this
      exact s_M_endOf (by rw [hs.1]; exact hI) (by rw [hs.1]; exact hL) (by omega) (by rw [hs.1]; exact h)
    refine b0n (fun ed => ?_) (fun ed => ?_)
    · rw [ed] at fin; exact fin
    · rw [ed] at fin; exact fin
  · have e' : inb p 0 999 = false := by simpa using e
    rw [e'] at h
    rw [e]
    exact h _ ((thr_same M 0).trans (thr_same _ 1)) (thr_0 _ _)
/-- the least slip by which some law holds -/
def slF (w : Nat → Int32) : Nat → Int32
  | 0 => 99
  | d + 1 => if 0 < toA w (-(31 - (d + 1 : Int))) then I (-(31 - (d + 1 : Int))) else if 0 < toA w (31 - (d + 1 : Int)) then I (31 - (d + 1 : Int)) else slF w d
theorem sumZ_bd {f : Nat → Int} {c : Int} : ∀ n : Nat, (∀ k, k < n → 0 ≤ f k ∧ f k ≤ c) → 0 ≤ sumZ f n ∧ sumZ f n ≤ n * c
  | 0, _ => by simp [sumZ]
  | n + 1, h => by
    have h1 := sumZ_bd n (fun k hk => h k (by omega))
    have h2 := h n (by omega)
    simp only [sumZ]
    rw [show ((n + 1 : Nat) : Int) * c = n * c + c by rw [Int.natCast_add, Int.add_mul]; omega]
    omega
theorem toA_bd {w : Nat → Int32} (hI : WInv w) {s : Int} (hs : -30 ≤ s ∧ s ≤ 30) : 0 ≤ toA w s ∧ toA w s ≤ 17100000 := by
  have := sumZ_bd (f := fun k => maA w s (kb k) (kc k)) (c := 10000) 1710 (fun k hk => by
    have h1 := loA_bd hI hs (kb_bd hk) (kc_bd k)
    have h2 := hiA_bd hI hs (kb_bd hk) (kc_bd k)
    simp only [maA]; omega)
  unfold toA
  omega
theorem s_M_slipped {post : Int32 → Mem → Prop} {M : Mem} (hI : WInv (M 1)) (h : Qr post M (qi 0 (slF (M 1) 31))) : P_M_slipped post M := by
  intro M1 e1
  have e2 : M1 = thr M 0 := e1
  subst e2
  have key : ∀ (d k : Nat), k + d = 31 → ∀ M', MSame M M' → M' 0 0 = 0 → slF (M 1) d = slF (M 1) 31 → P_M_slipped_7 post (d + 1) (nI k) M' := by
    intro d
    induction d with
    | zero =>
      intro k hk M' hM h0 hl
      refine ⟨fun c => ?_, fun c => ?_⟩
      · have h := h M' hM h0
        rw [← hl] at h
        exact h
      · exact absurd (show (30 : Int32) < nI k by rw [show (30 : Int32) = I 30 from rfl, nI_I, I_lt (by omega) (by omega)]; omega) c
    | succ d ih =>
      intro k hk M' hM h0 hl
      have hk31 : k ≤ 30 := by omega
      have ek : (31 - (d + 1 : Int)) = k := by omega
      refine ⟨fun c => ?_, fun c => ?_⟩
      · rw [show (30 : Int32) = I 30 from rfl, nI_I, I_lt (by omega) (by omega)] at c; omega
      have b1 := toA_bd hI (s := -k) (by omega)
      have b2 := toA_bd hI (s := k) (by omega)
      rw [nI_I, I_neg]
      refine s_M_lays (by rw [hM.1]; exact hI) (by omega) (fun M2 h2 hL => ?_)
      have hs2 : MSame M M2 := hM.trans (MSame.of fun c hc => h2 c (by omega) (by omega))
      have h02 : M2 0 0 = 0 := by rw [h2 0 (by omega) (by omega)]; exact h0
      rw [hM.1, I_0, I_le (by omega) (by omega)]
      refine ⟨fun c2 => ?_, fun c2 => ?_⟩
      · refine s_M_lays (by rw [hs2.1]; exact hI) (by omega) (fun M3 h3 hL3 => ?_)
        have hs3 : MSame M M3 := hs2.trans (MSame.of fun c hc => h3 c (by omega) (by omega))
        have h03 : M3 0 0 = 0 := by rw [h3 0 (by omega) (by omega)]; exact h02
        rw [hs2.1, I_le (by omega) (by omega)]
        refine ⟨fun c3 => ?_, fun c3 => ?_⟩
        · rw [← nI_I, nI_1]
          refine ih (k + 1) (by omega) M3 hs3 h03 ?_
          rw [← hl]
          simp only [slF, ek]
          rw [if_neg (by omega), if_neg (by omega)]
        · have h := h M3 hs3 h03
          rw [← hl] at h
          simp only [slF, ek] at h
          rw [if_neg (by omega), if_pos (by omega)] at h
          exact h
      · have h := h M2 hs2 h02
        rw [← hl] at h
        simp only [slF, ek] at h
        rw [if_pos (by omega)] at h
        exact h
  exact ⟨31 + 1, key 31 0 (by omega) _ (thr_same M 0) (thr_0 M 0) rfl⟩
