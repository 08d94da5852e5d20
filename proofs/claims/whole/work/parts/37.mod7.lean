/-! loops and branches, shorter; THE REFERENCE: lies, must, explains, left, missed, speeds, amount, wide -/
theorem lpN {R : Nat → Nat → Prop} {N : Nat} (hend : ∀ n, R (n + 1) N) (hstep : ∀ n x, x < N → R n (x + 1) → R (n + 1) x) : ∃ j, R j 0 := by
  have key : ∀ (d x : Nat), x + d = N → R (d + 1) x := by
    intro d
    induction d with
    | zero => intro x hx; rw [show x = N by omega]; exact hend 0
    | succ d ih => intro x hx; exact hstep (d + 1) x (by omega) (ih (x + 1) (by omega))
  exact ⟨N + 1, key N 0 (by omega)⟩
theorem lpFrom {R : Nat → Nat → Prop} {N a : Nat} (ha : a ≤ N) (hend : ∀ n, R (n + 1) N) (hstep : ∀ n x, a ≤ x → x < N → R n (x + 1) → R (n + 1) x) : ∃ j, R j a := by
  have key : ∀ (d x : Nat), a ≤ x → x + d = N → R (d + 1) x := by
    intro d
    induction d with
    | zero => intro x _ hx; rw [show x = N by omega]; exact hend 0
    | succ d ih => intro x hx0 hx; exact hstep (d + 1) x hx0 (by omega) (ih (x + 1) (by omega) (by omega))
  exact ⟨N - a + 1, key (N - a) a (by omega) (by omega)⟩
theorem brGo {v : Int32} {x N : Nat} {A B : Prop} (hv : v = nI N) (hN : N < 2147483648) (hx : x < N) (b : B) : (v ≤ nI x → A) ∧ (¬ v ≤ nI x → B) := by
  refine ⟨fun c => ?_, fun _ => b⟩
  rw [hv, nI_le_iff hN (by omega)] at c; omega
theorem brSt {v : Int32} {N : Nat} {A B : Prop} (hv : v = nI N) (a : A) : (v ≤ nI N → A) ∧ (¬ v ≤ nI N → B) := by
  refine ⟨fun _ => a, fun c => absurd ?_ c⟩
  rw [hv, leI]; omega
theorem tI0n {b : Bool} {k : Int32} {A B : Mem → Prop} {M : Mem} (ha : b = false → A M) (hb : b = true → B (thr M k)) : P_M_throwsIf (fun r M1 => (r = 0 → A M1) ∧ (¬ r = 0 → B M1)) (bi b) k M :=
  s_M_throwsIf (b0n (fun e => by subst e; exact ha rfl) (fun e => by subst e; exact hb rfl))
theorem tIn0 {b : Bool} {k : Int32} {A B : Mem → Prop} {M : Mem} (ha : b = false → A M) (hb : b = true → B (thr M k)) : P_M_throwsIf (fun r M1 => (¬ r = 0 → B M1) ∧ (r = 0 → A M1)) (bi b) k M :=
  s_M_throwsIf (bn0 (fun e => by subst e; exact ha rfl) (fun e => by subst e; exact hb rfl))
theorem th0 {X : Mem → Prop} {M : Mem} (h : X (thr M 0)) : ∀ M1, M1 = ms M 0 0 (0 : Int32) → X M1 := fun M1 e => by subst e; exact h
theorem thr1 (M : Mem) : thr M 0 1 = M 1 := thr_off _ _ (by omega)
theorem Qr.thrown {post : Int32 → Mem → Prop} {M : Mem} {k : Int32} {v : Int32} (h : Qr post M (qi k v)) : post v (thr (thr M 0) k) := h _ ((thr_same M 0).trans (thr_same _ k)) (thr_0 _ _)
theorem Qr.plain {post : Int32 → Mem → Prop} {M : Mem} {v : Int32} (h : Qr post M (qi 0 v)) : post v (thr M 0) := h _ (thr_same M 0) (thr_0 _ _)
/-- a question about spans -/
def Qs (post : Int32 → Mem → Prop) (M : Mem) (q : (Nat → Int32) → (Nat → Int32) → Int32 × Int32) : Prop := ∀ lo hi, SpOK (M 1) (-1) 0 lo hi (nn (M 1 9)) → Qr post M (q lo hi)
theorem s_sp {X : Mem → Prop} {M : Mem} (hI : WInv (M 1)) (h : ∀ M', MSame M M' → M' 0 0 = 0 → M' 1 = M 1 → LaOK (M 1) 0 M' 1710 → SpOK (M 1) (-1) 0 (M' 5) (M' 6) (nn (M 1 9)) → X M') : P_M_spans X (thr M 0) := by
  refine s_M_spans (by rw [thr1]; exact hI) (fun M' hM hL hS => ?_)
  rw [thr1] at hL hS
  exact h M' ((thr_same M 0).trans (MSame.of fun c hc => hM c (by omega) (by omega) (by omega) (by omega))) (by rw [hM 0 (by omega) (by omega) (by omega) (by omega)]; exact thr_0 M 0) (by rw [hM 1 (by omega) (by omega) (by omega) (by omega), thr1]) hL hS
theorem inb_pos {x : Int32} {c : Int32} (h : inb x 0 (c - 1) = true) (hc : rg c 0 1000000) : x = nI (nn x) ∧ nn x < nn c := by
  simp only [inb, decide_eq_true_eq, leI] at h
  have e0 : (0 : Int32).toInt = 0 := rfl
  have e1 : (1 : Int32).toInt = 1 := rfl
  unfold rg at hc
  rw [subI (by omega) (by omega)] at h
  obtain ⟨h2, h3⟩ := nn_of (x := x) (lo := 0) (hi := c.toInt) ⟨by omega, by omega⟩ (by omega)
  refine ⟨h2, ?_⟩
  unfold nn at *
  omega
theorem WInv.np {w : Nat → Int32} (h : WInv w) : w 8 = nI (nn (w 8)) ∧ nn (w 8) ≤ 3 := by
  have h1 := h.2.2.2.2.2.2.2.2.1
  obtain ⟨h2, h3⟩ := nn_of h1 (by omega)
  have := h1.2
  exact ⟨h2, by omega⟩
theorem WInv.nm {w : Nat → Int32} (h : WInv w) : w 11 = nI (nn (w 11)) ∧ nn (w 11) ≤ 4 := by
  have h1 := h.2.2.2.2.2.2.2.2.2.2.2.1
  obtain ⟨h2, h3⟩ := nn_of h1 (by omega)
  have := h1.2
  exact ⟨h2, by omega⟩
theorem WInv.ng {w : Nat → Int32} (h : WInv w) : w 5 = nI (nn (w 5)) ∧ nn (w 5) ≤ 8 := by
  have h1 := h.2.2.2.2.2.1
  obtain ⟨h2, h3⟩ := nn_of h1 (by omega)
  have := h1.2
  exact ⟨h2, by omega⟩
theorem WInv.nc {w : Nat → Int32} (h : WInv w) : w 10 = nI (nn (w 10)) ∧ nn (w 10) ≤ 6 := by
  have h1 := h.2.2.2.2.2.2.2.2.2.2.1
  obtain ⟨h2, h3⟩ := nn_of h1 (by omega)
  have := h1.2
  exact ⟨h2, by omega⟩
theorem rg_mono {x : Int32} {a b c d : Int} (h : rg x a b) (h1 : c ≤ a) (h2 : b ≤ d) : rg x c d := ⟨by have := h.1; omega, by have := h.2; omega⟩
theorem WInv.inp {w : Nat → Int32} (h : WInv w) {p : Int32} (hp : inb p 0 (w 8 - 1) = true) : p = nI (nn p) ∧ nn p < 3 := by
  obtain ⟨h1, h2⟩ := inb_pos hp (rg_mono h.2.2.2.2.2.2.2.2.1 (by omega) (by omega))
  exact ⟨h1, by have := h.np.2; omega⟩
theorem WInv.ine {w : Nat → Int32} (h : WInv w) {p : Int32} (hp : inb p 0 (w 7 - 1) = true) : p = nI (nn p) ∧ nn p < nn (w 7) ∧ nn p < 6 := by
  obtain ⟨h1, h2⟩ := inb_pos hp (rg_mono h.2.2.2.2.2.2.2.1 (by omega) (by omega))
  exact ⟨h1, h2, by have := h.ne.2; omega⟩
theorem WInv.inr {w : Nat → Int32} (h : WInv w) {p : Int32} (hp : inb p 0 (w 9 - 1) = true) : p = nI (nn p) ∧ nn p < nn (w 9) ∧ nn p < 24 := by
  obtain ⟨h1, h2⟩ := inb_pos hp (rg_mono h.2.2.2.2.2.2.2.2.2.1 (by omega) (by omega))
  exact ⟨h1, h2, by have := h.nr.2; omega⟩
theorem WInv.inl {w : Nat → Int32} (h : WInv w) {e : Nat} (he : e < 6) {p : Int32} (hp : inb p 0 (w (93 + 14 * e) - 1) = true) : p = nI (nn p) ∧ nn p < nn (w (93 + 14 * e)) ∧ nn p < 6 := by
  obtain ⟨h1, h2⟩ := inb_pos hp (rg_mono (h.el he).2.1 (by omega) (by omega))
  exact ⟨h1, h2, by have := (h.nl he).2; omega⟩
theorem WInv.inm {w : Nat → Int32} (h : WInv w) {p : Int32} (hp : inb p 0 (w 11 - 1) = true) : p = nI (nn p) ∧ nn p < nn (w 11) ∧ nn p < 4 := by
  obtain ⟨h1, h2⟩ := inb_pos hp (rg_mono h.2.2.2.2.2.2.2.2.2.2.2.1 (by omega) (by omega))
  exact ⟨h1, h2, by have := h.nm.2; omega⟩
theorem WInv.inc {w : Nat → Int32} (h : WInv w) {p : Int32} (hp : inb p 0 (w 10 - 1) = true) : p = nI (nn p) ∧ nn p < nn (w 10) ∧ nn p < 6 := by
  obtain ⟨h1, h2⟩ := inb_pos hp (rg_mono h.2.2.2.2.2.2.2.2.2.2.1 (by omega) (by omega))
  exact ⟨h1, h2, by have := h.nc.2; omega⟩
theorem bnot {b : Bool} (h : (!b) = false) : b = true := by simpa using h
theorem bnot' {b : Bool} (h : (!b) = true) : b = false := by simpa using h
/-- there is such a line -/
def lnB (w : Nat → Int32) (e l : Int32) : Bool := inb e 0 (w 7 - 1) && inb l 0 (w (93 + 14 * nn e) - 1)
theorem s_M_noLine {post : Int32 → Mem → Prop} {e l : Int32} {M : Mem} (hI : WInv (M 1)) (h : post (bi (!lnB (M 1) e l)) M) : P_M_noLine post e l M := by
  refine s_M_none (c := 7) (by omega) (bn0 (fun c => ?_) (fun c => ?_))
  · obtain ⟨he, he7, he6⟩ := hI.ine (bnot c)
    have h2 : (!lnB (M 1) e l) = !inb l 0 (M 1 (93 + 14 * nn e) - 1) := by simp only [lnB, bnot c, Bool.true_and]
    rw [h2] at h
    rw [he]
    refine s_M_lines he6 (s_M_in (bn0 (fun c2 => ?_) (fun c2 => ?_)))
    · rw [c2] at h; exact ⟨Or.inr rfl, h⟩
    · rw [c2] at h; exact ⟨Or.inl rfl, h⟩
  · have h2 : (!lnB (M 1) e l) = true := by simp [lnB, bnot' c]
    rw [h2] at h; exact ⟨Or.inr rfl, h⟩
theorem s_M_lies {post : Int32 → Mem → Prop} {e l v : Int32} {M : Mem} (hI : WInv (M 1)) (h : Qr post M (if !lnB (M 1) e l then qi 1 0 else if !inb v (-50) 50 then qi 2 0 else qi 0 (shf (M 1) (nn e) (nn l) v))) : P_M_lies post e l v M := by
  refine th0 (s_M_noLine (by rw [thr1]; exact hI) ?_)
  rw [thr1]
  refine tIn0 (fun c => s_M_noSpeed (tI0n (fun c2 => ?_) (fun c2 => ?_))) (fun c => ?_)
  · rw [if_neg (by rw [c]; simp), if_neg (by rw [c2]; simp)] at h
    have c := bnot c
    simp only [lnB, Bool.and_eq_true] at c
    obtain ⟨he, he7, he6⟩ := hI.ine c.1
    obtain ⟨hl, hl7, hl6⟩ := hI.inl he6 c.2
    rw [he, hl]
    exact s_M_shifted he6 hl6 (by rw [thr1]; exact h.plain)
  · rw [if_neg (by rw [c]; simp), if_pos c2] at h
    exact h.thrown
  · rw [if_pos c] at h
    exact h.thrown
theorem s_M_must {post : Int32 → Mem → Prop} {p e l : Int32} {M : Mem} (hI : WInv (M 1)) (h : Qr post M (if !inb p 0 (M 1 8 - 1) || !lnB (M 1) e l then qi 1 0 else qi 0 (bi (moB (M 1) (nn p) (nn e) (nn l) 0)))) : P_M_must post p e l M := by
  have bad : (!inb p 0 (M 1 8 - 1) || !lnB (M 1) e l) = true → P_M_must_30 post p e l (bi true) (thr M 0) := fun c => by
    rw [if_pos c] at h
    refine tIn0 (fun c2 => absurd c2 (by simp)) (fun _ => ?_)
    exact ⟨Or.inl rfl, h.thrown⟩
  refine th0 (s_M_none (c := 8) (by omega) ?_)
  rw [thr1]
  refine bn0 (fun c => s_M_noLine (by rw [thr1]; exact hI) ?_) (fun c => ?_)
  · rw [thr1]
    refine b0n (fun c2 => ?_) (fun c2 => ?_)
    · rw [if_neg (by rw [c, c2]; simp)] at h
      refine tIn0 (b := false) (fun _ => ?_) (fun c2 => absurd c2 (by simp))
      have c2 := bnot c2
      simp only [lnB, Bool.and_eq_true] at c2
      obtain ⟨he, he7, he6⟩ := hI.ine c2.1
      obtain ⟨hl, hl7, hl6⟩ := hI.inl he6 c2.2
      obtain ⟨hp, hp3⟩ := hI.inp (bnot c)
      rw [he, hl, hp]
      refine s_M_mustOn hp3 he6 hl6 ?_
      rw [thr1]
      have h := h.plain
      refine b0n (fun c4 => ?_) (fun c4 => ?_)
      · rw [c4] at h; exact ⟨Or.inl rfl, h⟩
      · rw [c4] at h; exact ⟨Or.inr rfl, h⟩
    · exact bad (by rw [c2]; simp)
  · exact bad (by rw [c]; simp)
theorem s_M_noQuestion {A B : Mem → Prop} {p v : Int32} {M : Mem} (h : (inb p 0 (M 1 8 - 1) = true → inb v (-50) 50 = true → A M) ∧ (inb p 0 (M 1 8 - 1) = false → B (thr M 1)) ∧ (inb p 0 (M 1 8 - 1) = true → inb v (-50) 50 = false → B (thr M 2))) : P_M_noQuestion (fun r M1 => (r = 0 → A M1) ∧ (¬ r = 0 → B M1)) p v M := by
  refine s_M_none (c := 8) (by omega) (tIn0 (fun c => s_M_noSpeed (tI0n (fun c2 => ?_) (fun c2 => ?_))) (fun c => ?_))
  · exact ⟨Or.inl rfl, fun _ => h.1 (bnot c) (bnot c2), fun c => absurd rfl c⟩
  · exact ⟨Or.inr rfl, fun c => absurd c (by decide), fun _ => h.2.2 (bnot c) (bnot' c2)⟩
  · exact ⟨Or.inr rfl, fun c => absurd c (by decide), fun _ => h.2.1 (bnot' c)⟩
/-- what is thrown by a question of plate and speed, else the answer -/
def qps (w : Nat → Int32) (p v : Int32) (x : Int32) : Int32 × Int32 := if !inb p 0 (w 8 - 1) then qi 1 0 else if !inb v (-50) 50 then qi 2 0 else qi 0 x
theorem s_qps {A : Mem → Prop} {post : Int32 → Mem → Prop} {p v : Int32} {M : Mem} {x : (Nat → Int32) → (Nat → Int32) → Int32} (hI : WInv (M 1)) (h : Qs post M (fun lo hi => qps (M 1) p v (x lo hi)))
    (hA : p = nI (nn p) → nn p < 3 → inb v (-50) 50 = true → ∀ M', M' 1 = M 1 → SpOK (M 1) (-1) 0 (M' 5) (M' 6) (nn (M 1 9)) → post (x (M' 5) (M' 6)) M' → A M') : P_M_noQuestion (fun r M1 => (r = 0 → P_M_spans A M1) ∧ (¬ r = 0 → post (0 : Int32) M1)) p v (thr M 0) := by
  have bad : ∀ k : Int32, (∀ lo hi, qps (M 1) p v (x lo hi) = qi k 0) → post 0 (thr (thr M 0) k) := by
    intro k hk
    have h := h (fun r => I (edZ (M 1) (plZ (M 1) (-1) 0 r) false)) (fun r => I (edZ (M 1) (plZ (M 1) (-1) 0 r) true)) (fun r _ => ⟨rfl, rfl⟩)
    simp only [] at h
    rw [hk] at h
    exact h.thrown
  refine s_M_noQuestion ⟨fun c c2 => ?_, fun c => ?_, fun c c2 => ?_⟩
  · rw [thr1] at c
    obtain ⟨hp, hp3⟩ := hI.inp c
    refine s_sp hI (fun M' hM h0 h1 hL hS => hA hp hp3 c2 M' h1 hS ?_)
    have h := h _ _ hS
    simp only [qps, c, c2] at h
    exact h M' hM h0
  · rw [thr1] at c
    exact bad 1 (fun lo hi => by simp [qps, c])
  · rw [thr1] at c
    exact bad 2 (fun lo hi => by simp [qps, c, c2])
theorem s_M_explains {post : Int32 → Mem → Prop} {p set v : Int32} {M : Mem} (hI : WInv (M 1)) (h : Qs post M (fun lo hi => qps (M 1) p v (bi (exB (M 1) lo hi (nn p) set v)))) : P_M_explains post p set v M := by
  refine th0 (s_qps hI h (fun hp hp3 hv M' h1 hS hpost => ?_))
  rw [hp]
  refine s_M_explainsBy (by rw [h1]; exact hI) hp3 ⟨bi_01 _, ?_⟩
  rw [h1]; exact hpost
theorem s_M_left {post : Int32 → Mem → Prop} {p set v : Int32} {M : Mem} (hI : WInv (M 1)) (h : Qs post M (fun lo hi => qps (M 1) p v (lfA (M 1) lo hi p set v))) : P_M_left post p set v M := by
  refine th0 (s_qps hI h (fun hp hp3 hv M' h1 hS hpost => ?_))
  exact s_M_leftOf (by rw [h1]; exact hI) (by rw [h1]; exact hpost)
theorem s_M_missed {post : Int32 → Mem → Prop} {p set v : Int32} {M : Mem} (hI : WInv (M 1)) (h : Qs post M (fun lo hi => qps (M 1) p v (nI (miS (M 1) lo hi (nn p) set v)))) : P_M_missed post p set v M := by
  refine th0 (s_qps hI h (fun hp hp3 hv M' h1 hS hpost => ?_))
  rw [hp]
  exact s_M_missedOf (by rw [h1]; exact hI) hp3 (by rw [h1]; exact hpost)
/-- a question of a plate and a second thing (b: it is right) -/
def qpw (w : Nat → Int32) (p : Int32) (b : Bool) (x : Int32) : Int32 × Int32 := if !inb p 0 (w 8 - 1) then qi 1 0 else if !b then qi 2 0 else qi 0 x
theorem Qs.bad {post : Int32 → Mem → Prop} {M : Mem} {q : (Nat → Int32) → (Nat → Int32) → Int32 × Int32} {k : Int32} (h : Qs post M q) (hk : ∀ lo hi, q lo hi = qi k 0) : post 0 (thr (thr M 0) k) := by
  have h := h (fun r => I (edZ (M 1) (plZ (M 1) (-1) 0 r) false)) (fun r => I (edZ (M 1) (plZ (M 1) (-1) 0 r) true)) (fun r _ => ⟨rfl, rfl⟩)
  rw [hk] at h
  exact h.thrown
theorem s_qpw {A : Mem → Prop} {X : Int32 → Mem → Prop} {post : Int32 → Mem → Prop} {p what lo hi : Int32} {M : Mem} {x : (Nat → Int32) → (Nat → Int32) → Int32} (hI : WInv (M 1)) (h : Qs post M (fun l1 h1 => qpw (M 1) p (inb what lo hi) (x l1 h1)))
    (hX : ∀ b M', P_M_throwsIf (fun r M1 => (r = 0 → P_M_spans A M1) ∧ (¬ r = 0 → post (0 : Int32) M1)) (bi b) 2 M' → X (bi b) M')
    (hA : p = nI (nn p) → nn p < 3 → inb what lo hi = true → ∀ M', M' 1 = M 1 → SpOK (M 1) (-1) 0 (M' 5) (M' 6) (nn (M 1 9)) → (∀ M2, MSame M' M2 → M2 0 0 = 0 → post (x (M' 5) (M' 6)) M2) → M' 0 0 = 0 → A M') :
    P_M_none (fun r2 M2 => P_M_throwsIf (fun r3 M3 => (¬ r3 = 0 → post (0 : Int32) M3) ∧ (r3 = 0 → P_M_in (fun r4 M4 => (¬ r4 = 0 → X (0 : Int32) M4) ∧ (r4 = 0 → X (1 : Int32) M4)) what lo hi M3)) r2 (1 : Int32) M2) p (8 : Int32) (thr M 0) := by
  refine s_M_none (c := 8) (by omega) ?_
  rw [thr1]
  refine tIn0 (fun c => s_M_in (bn0 (fun c2 => ?_) (fun c2 => ?_))) (fun c => ?_)
  · exact hX true _ (tI0n (fun c3 => absurd c3 (by simp)) (fun _ => h.bad (fun lo hi => by simp [qpw, bnot c, c2])))
  · refine hX false _ (tI0n (fun _ => ?_) (fun c3 => absurd c3 (by simp)))
    obtain ⟨hp, hp3⟩ := hI.inp (bnot c)
    refine s_sp hI (fun M' hM h0 h1 hL hS => hA hp hp3 c2 M' h1 hS (fun M2 hM2 h02 => ?_) h0)
    have h := h _ _ hS
    simp only [qpw, bnot c, c2] at h
    exact h M2 (hM.trans hM2) h02
  · exact h.bad (fun lo hi => by simp [qpw, bnot' c])
/-- speeds: how many, the least, the greatest -/
def sdF (ex : Int → Bool) : Nat → Nat × Int32 × Int32
  | 0 => (0, 99, 99)
  | n + 1 => if ex ((n : Int) - 50) then ((sdF ex n).1 + 1, (if (sdF ex n).1 = 0 then I ((n : Int) - 50) else (sdF ex n).2.1), I ((n : Int) - 50)) else sdF ex n
theorem sdF_le (ex : Int → Bool) : ∀ n, (sdF ex n).1 ≤ n
  | 0 => by simp [sdF]
  | n + 1 => by
    have h := sdF_le ex n
    simp only [sdF]
    split
    · simp only []; omega
    · omega
def sdW (t : Nat × Int32 × Int32) (what : Int32) : Int32 := if what = 0 then nI t.1 else if what = 1 then t.2.1 else t.2.2
theorem s_M_speeds {post : Int32 → Mem → Prop} {p set what : Int32} {M : Mem} (hI : WInv (M 1)) (h : Qs post M (fun lo hi => qpw (M 1) p (inb what 0 2) (sdW (sdF (fun v => exB (M 1) lo hi (nn p) set (I v)) 101) what))) : P_M_speeds post p set what M := by
  refine th0 (s_qpw hI h (X := P_M_speeds_35 post p set what) (A := fun M2 => ∃ j63, P_M_speeds_63 post j63 p set what (0) (99) (99) (-50) M2) (fun b M' hb => hb) (fun hp hp3 hw M' h1 hS hpost h0 => ?_))
  have hI' : WInv (M' 1) := by rw [h1]; exact hI
  have hpost := hpost M' (MSame.refl _) h0
  generalize hf : sdF (fun v => exB (M 1) (M' 5) (M' 6) (nn p) set (I v)) = F at hpost
  have hF : ∀ n, (F n).1 ≤ n := by intro n; rw [← hf]; exact sdF_le _ n
  refine lpN (R := fun j x => P_M_speeds_63 post j p set what (nI (F x).1) (F x).2.1 (F x).2.2 (I ((x : Int) - 50)) M') (N := 101) (fun n => ?_) (fun n x hx ih => ?_) |>.imp (fun j hj => by rw [← hf] at hj; exact hj)
  · refine ⟨fun _ => ?_, fun c => absurd (show (50 : Int32) < I ((101 : Nat) - 50) by decide) c⟩
    refine ⟨fun c => ⟨fun c2 => ?_, fun c2 => ?_⟩, fun c => ?_⟩
    · simp only [sdW, c, c2, if_false] at hpost; exact hpost
    · simp only [sdW, c, c2, if_false, if_true] at hpost; rw [if_neg (by decide)] at hpost; exact hpost
    · simp only [sdW, c, if_true] at hpost; exact hpost
  · refine ⟨fun c => ?_, fun _ => ?_⟩
    · rw [show (50 : Int32) = I 50 from rfl, I_lt (by omega) (by omega)] at c; omega
    have e1 : I ((x : Int) - 50) + (1 : Int32) = I (((x + 1 : Nat) : Int) - 50) := by rw [I_1, I_add]; congr 1; omega
    have e2 : F (x + 1) = if exB (M 1) (M' 5) (M' 6) (nn p) set (I ((x : Int) - 50)) then ((F x).1 + 1, (if (F x).1 = 0 then I ((x : Int) - 50) else (F x).2.1), I ((x : Int) - 50)) else F x := by rw [← hf]; rfl
    have hFx := hF x
    rw [hp]
    refine s_M_explainsBy hI' hp3 ?_
    rw [h1, ← hp]
    refine bn0 (fun c => ?_) (fun c => ?_)
    · rw [c] at e2
      rw [e2] at ih
      simp only [Bool.false_eq_true, if_false] at ih
      unfold P_M_speeds_105
      rw [e1]; exact ih
    · rw [c] at e2
      rw [e2] at ih
      simp only [if_true] at ih
      have e3 : nI (F x).1 + (1 : Int32) = nI ((F x).1 + 1) := nI_1 _
      refine ⟨fun c2 => ?_, fun c2 => ?_⟩
      · unfold P_M_speeds_96 P_M_speeds_105
        rw [e1, e3]
        rw [if_neg (fun e => c2 (by rw [e]; rfl))] at ih
        exact ih
      · unfold P_M_speeds_96 P_M_speeds_105
        rw [e1, e3]
        rw [if_pos (by rw [← nI_0, nI_eq (by omega) (by omega)] at c2; exact c2)] at ih
        exact ih
