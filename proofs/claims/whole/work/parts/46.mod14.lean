/-! THE REFERENCE: fits, look, drift, maker, recipe -/
theorem allB_le {p : Nat → Bool} {x n : Nat} (h : x ≤ n) (hx : allB p x = false) : allB p n = false := by
  cases hn : allB p n with
  | false => rfl
  | true =>
    rw [allB_iff] at hn
    have : allB p x = true := allB_iff.mpr (fun y hy => hn y (by omega))
    rw [this] at hx; cases hx
/-- a gauge is met -/
def gfB (w : Nat → Int32) (wr lg ph : Int32) (k : Nat) : Bool := decide (¬ 1 < jabs (jabs (turn (w (12 + 5 * k)) (w (13 + 5 * k)) (w 0) wr ph lg - turn (w (14 + 5 * k)) (w (15 + 5 * k)) (w 0) wr ph lg) - w (16 + 5 * k)))
def isF (w : Nat → Int32) (wr lg ph : Int32) : Bool := allB (gfB w wr lg ph) (nn (w 5))
theorem s_M_isFit {post : Int32 → Mem → Prop} {wr lg ph : Int32} {M : Mem} (hI : WInv (M 1)) (h : post (bi (isF (M 1) wr lg ph)) M) : P_M_isFit post wr lg ph M := by
  obtain ⟨hn, hn8⟩ := hI.ng
  unfold isF at h
  generalize hp : gfB (M 1) wr lg ph = p at h
  refine lpN (R := fun j x => P_M_isFit_6 post j wr lg ph (bi (allB p x)) (nI x) M) (N := nn (M 1 5)) (fun n => ?_) (fun n x hx ih => ?_)
  · exact ⟨vin_nI (n := 5) (by omega) (by omega), brSt hn ⟨bi_01 _, h⟩⟩
  · refine ⟨vin_nI (n := 5) (by omega) (by omega), brGo hn (by omega) hx (b0n (fun c => ?_) (fun c => ?_))⟩
    · rw [allB_le (Nat.le_of_lt hx) c] at h
      rw [c]; exact ⟨bi_01 _, h⟩
    · intro k ek
      have e0 : k = nI (12 + 5 * x) := by rw [ek]; exact ixI 12 5 x
      have e1 : k + 1 = nI (13 + 5 * x) := by rw [e0, nI_1]; congr 1; omega
      have e2 : k + 2 = nI (14 + 5 * x) := by rw [e0, lit_nI 2, nI_add]; congr 1; omega
      have e3 : k + 3 = nI (15 + 5 * x) := by rw [e0, lit_nI 3, nI_add]; congr 1; omega
      have e4 : k + 4 = nI (16 + 5 * x) := by rw [e0, lit_nI 4, nI_add]; congr 1; omega
      rw [e1, e2, e3, e4, e0]
      rw [nI_clamp (by omega), nI_clamp (by omega), nI_clamp (by omega), nI_clamp (by omega), nI_clamp (by omega)]
      have e5 : allB p (x + 1) = p x := by simp only [allB, c, Bool.true_and]
      refine ⟨vin_nI (by omega) (by omega), vin_nI (by omega) (by omega), vin_nI (n := 0) (by omega) (by omega), s_M_turned hI.per ⟨vin_nI (by omega) (by omega), vin_nI (by omega) (by omega), vin_nI (n := 0) (by omega) (by omega), s_M_turned hI.per (s_abs ⟨vin_nI (by omega) (by omega), s_abs ⟨fun c2 => ?_, fun c2 => ?_⟩⟩)⟩⟩
      · have e6 : p x = false := by rw [← hp]; unfold gfB; exact decide_eq_false (fun h => h c2)
        rw [e5, e6, ← nI_1] at ih; exact ih
      · have e6 : p x = true := by rw [← hp]; unfold gfB; exact decide_eq_true c2
        rw [e5, e6, ← nI_1] at ih; exact ih
/-- the place of a try (wear, lag, phase) in their order; and back -/
def wO (P n : Nat) : Nat := if n < 10 then 0 else 1 + (n - 10) / P / 10
def lO (P n : Nat) : Nat := if n < 10 then n else (n - 10) / P % 10
def pO (P n : Nat) : Nat := if n < 10 then 0 else (n - 10) % P
def jO (P wr lg ph : Nat) : Nat := if wr = 0 then lg + ph else 10 + ((wr - 1) * 10 + lg) * P + ph
theorem jO_w {P wr lg ph : Nat} (hl : lg < 10) (hp : ph < (if wr = 0 then 1 else P)) : wO P (jO P wr lg ph) = wr ∧ lO P (jO P wr lg ph) = lg ∧ pO P (jO P wr lg ph) = ph := by
  by_cases h0 : wr = 0
  · rw [if_pos h0] at hp
    have e : jO P wr lg ph = lg := by unfold jO; rw [if_pos h0]; omega
    rw [e]
    unfold wO lO pO
    rw [if_pos hl, if_pos hl, if_pos hl]
    omega
  · rw [if_neg h0] at hp
    have e : jO P wr lg ph - 10 = ph + P * ((wr - 1) * 10 + lg) := by unfold jO; rw [if_neg h0, Nat.mul_comm]; omega
    have e2 : ¬ jO P wr lg ph < 10 := by unfold jO; rw [if_neg h0]; omega
    have hP : 0 < P := by omega
    unfold wO lO pO
    rw [if_neg e2, if_neg e2, if_neg e2, e, Nat.add_mul_div_left _ _ hP, Nat.div_eq_of_lt hp, Nat.add_mul_mod_self_left, Nat.mod_eq_of_lt hp]
    omega
def isJ (w : Nat → Int32) (n : Nat) : Bool := isF w (nI (wO (nn (w 0)) n)) (nI (lO (nn (w 0)) n)) (nI (pO (nn (w 0)) n))
def vlJ (P n : Nat) : Int32 := nI (1000 * wO P n + 100 * lO P n + pO P n)
def fitR (is : Nat → Bool) (val : Nat → Int32) (i : Int32) (N : Nat) : Int32 := frF (fun j k => if is j && decide (nI (cntB is j) = i) then val j else k) (if 0 ≤ i then -1 else nI (cntB is N)) N 0
theorem WInv.nP {w : Nat → Int32} (h : WInv w) : w 0 = nI (nn (w 0)) ∧ 2 ≤ nn (w 0) ∧ nn (w 0) ≤ 50 := by
  have h1 := h.1
  obtain ⟨h2, h3⟩ := nn_of h1 (by omega)
  have := h1.1
  have := h1.2
  exact ⟨h2, by omega, by omega⟩
theorem s_M_fitAt {post : Int32 → Mem → Prop} {i : Int32} {M : Mem} (hI : WInv (M 1)) (h : post (fitR (isJ (M 1)) (vlJ (nn (M 1 0))) i (10 + 90 * nn (M 1 0))) M) : P_M_fitAt post i M := by
  obtain ⟨hP, hP2, hP50⟩ := hI.nP
  unfold fitR at h
  have hisJ : ∀ n, isJ (M 1) n = isF (M 1) (nI (wO (nn (M 1 0)) n)) (nI (lO (nn (M 1 0)) n)) (nI (pO (nn (M 1 0)) n)) := fun n => rfl
  generalize hd : (if 0 ≤ i then (-1 : Int32) else nI (cntB (isJ (M 1)) (10 + 90 * nn (M 1 0)))) = d at h
  generalize nn (M 1 0) = P at *
  generalize isJ (M 1) = is at *
  have hcb := cntB_le is
  generalize hg : (fun j k => if is j && decide (nI (cntB is j) = i) then vlJ P j else k) = g at h
  have hgs : ∀ j k, g j k = if is j && decide (nI (cntB is j) = i) then vlJ P j else k := fun j k => by rw [← hg]
  generalize hres : frF g d (10 + 90 * P) 0 = res at h
  have key : ∃ j, frF g d (10 + 90 * P - jO P 0 0 0) (jO P 0 0 0) = res → P_M_fitAt_4 post j i (nI (cntB is (jO P 0 0 0))) (nI 0) M := by
    refine lpN (R := fun j wr => frF g d (10 + 90 * P - jO P wr 0 0) (jO P wr 0 0) = res → P_M_fitAt_4 post j i (nI (cntB is (jO P wr 0 0))) (nI wr) M) (N := 10) (fun n hr => ?_) (fun n wr hwr ih hr => ?_)
    · have e : jO P 10 0 0 = 10 + 90 * P := by unfold jO; simp
      rw [e] at hr ⊢
      rw [frF_end] at hr
      refine brSt (N := 10) rfl ⟨fun c => ?_, fun c => ?_⟩
      · rw [if_pos c] at hd; rw [← hr, ← hd] at h; exact h
      · rw [if_neg c] at hd; rw [← hr, ← hd] at h; exact h
    · refine brGo (N := 10) rfl (by omega) hwr ?_
      have key2 : ∃ j, frF g d (10 + 90 * P - jO P wr 0 0) (jO P wr 0 0) = res → P_M_fitAt_13 post (P_M_fitAt_4 post n) j i (nI (cntB is (jO P wr 0 0))) (nI wr) (nI 0) M := by
        refine lpN (R := fun j lg => frF g d (10 + 90 * P - jO P wr lg 0) (jO P wr lg 0) = res → P_M_fitAt_13 post (P_M_fitAt_4 post n) j i (nI (cntB is (jO P wr lg 0))) (nI wr) (nI lg) M) (N := 10) (fun m hr => ?_) (fun m lg hlg ih2 hr => ?_)
        · refine brSt (N := 10) rfl ?_
          have e : jO P wr 10 0 = jO P (wr + 1) 0 0 := by
            unfold jO
            by_cases h0 : wr = 0
            · simp [h0]
            · have e3 : (wr - 1) * 10 + 10 = (wr + 1 - 1) * 10 + 0 := by omega
              rw [if_neg h0, if_neg (by omega), e3]
          rw [e] at hr ⊢
          rw [nI_1]; exact ih hr
        · refine brGo (N := 10) rfl (by omega) hlg ?_
          generalize hcn : (if wr = 0 then 1 else P) = cn
          have hcn50 : cn ≤ 50 := by rw [← hcn]; split <;> omega
          have key3 : ∃ j, frF g d (10 + 90 * P - jO P wr lg 0) (jO P wr lg 0) = res → P_M_fitAt_23 post (P_M_fitAt_4 post n) (P_M_fitAt_13 post (P_M_fitAt_4 post n) m) j i (nI (cntB is (jO P wr lg 0))) (nI wr) (nI lg) (nI 0) M := by
            refine lpN (R := fun j ph => frF g d (10 + 90 * P - jO P wr lg ph) (jO P wr lg ph) = res → P_M_fitAt_23 post (P_M_fitAt_4 post n) (P_M_fitAt_13 post (P_M_fitAt_4 post n) m) j i (nI (cntB is (jO P wr lg ph))) (nI wr) (nI lg) (nI ph) M) (N := cn) (fun q hr => ?_) (fun q ph hph ih3 hr => ?_)
            · have e : jO P wr lg cn = jO P wr (lg + 1) 0 := by
                unfold jO
                by_cases h0 : wr = 0
                · rw [if_pos h0] at hcn; rw [if_pos h0, if_pos h0]; omega
                · rw [if_neg h0] at hcn
                  rw [if_neg h0, if_neg h0, ← hcn, ← Nat.add_assoc, Nat.add_mul _ 1, Nat.one_mul]; omega
              have go : ∀ v : Int32, v = nI cn → P_M_fitAt_39 post (P_M_fitAt_4 post n) (P_M_fitAt_13 post (P_M_fitAt_4 post n) m) (P_M_fitAt_23 post (P_M_fitAt_4 post n) (P_M_fitAt_13 post (P_M_fitAt_4 post n) m) q) i (nI (cntB is (jO P wr lg cn))) (nI wr) (nI lg) (nI cn) (nI cn) v M := by
                intro v hv
                refine brSt hv ?_
                rw [e] at hr ⊢
                rw [nI_1]; exact ih2 hr
              refine ⟨fun c => ⟨vin_nI (n := 0) (by omega) (by omega), go _ ?_⟩, fun c => go _ ?_⟩
              · rw [if_neg (fun e => c (by rw [e]; rfl))] at hcn; rw [← hcn]; exact hP
              · rw [← nI_0, nI_eq (by omega) (by omega)] at c; rw [if_pos c] at hcn; rw [← hcn]; rfl
            · obtain ⟨w1, w2, w3⟩ := jO_w (P := P) (wr := wr) (lg := lg) (ph := ph) hlg (by rw [hcn]; exact hph)
              have eJ : jO P wr lg (ph + 1) = jO P wr lg ph + 1 := by unfold jO; split <;> omega
              have hJ : jO P wr lg ph < 10 + 90 * P := by
                unfold jO
                by_cases h0 : wr = 0
                · rw [if_pos h0] at hcn ⊢; omega
                · rw [if_neg h0] at hcn ⊢
                  have h5 : ((wr - 1) * 10 + lg) * P ≤ 89 * P := Nat.mul_le_mul_right _ (by omega)
                  omega
              have his := hisJ (jO P wr lg ph)
              rw [w1, w2, w3] at his
              have hval : vlJ P (jO P wr lg ph) = nI (1000 * wr + 100 * lg + ph) := by unfold vlJ; rw [w1, w2, w3]
              rw [frF_step hJ, hgs, hval] at hr
              rw [eJ] at ih3
              generalize jO P wr lg ph = J at *
              have go : ∀ v : Int32, v = nI cn → P_M_fitAt_39 post (P_M_fitAt_4 post n) (P_M_fitAt_13 post (P_M_fitAt_4 post n) m) (P_M_fitAt_23 post (P_M_fitAt_4 post n) (P_M_fitAt_13 post (P_M_fitAt_4 post n) m) q) i (nI (cntB is J)) (nI wr) (nI lg) (nI ph) (nI ph) v M := by
                intro v hv
                refine brGo hv (by omega) hph (s_M_isFit hI ?_)
                rw [← his]
                refine bn0 (fun c => ?_) (fun c => ⟨fun c2 => ?_, fun c2 => ?_⟩)
                · rw [c] at hr
                  have ih3 := ih3 hr
                  have ec : cntB is (J + 1) = cntB is J := by simp [cntB, c]
                  rw [ec, ← nI_1] at ih3; exact ih3
                · rw [c, decide_eq_false c2] at hr
                  have ih3 := ih3 hr
                  have ec : cntB is (J + 1) = cntB is J + 1 := by simp [cntB, c]
                  rw [ec, ← nI_1, ← nI_1] at ih3; exact ih3
                · rw [c, decide_eq_true c2] at hr
                  have hr : nI (1000 * wr + 100 * lg + ph) = res := hr
                  rw [← hr, ← nI_add, ← nI_add, ← pk_mul, ← pk_mul] at h
                  exact h
              refine ⟨fun c => ⟨vin_nI (n := 0) (by omega) (by omega), go _ ?_⟩, fun c => go _ ?_⟩
              · rw [if_neg (fun e => c (by rw [e]; rfl))] at hcn; rw [← hcn]; exact hP
              · rw [← nI_0, nI_eq (by omega) (by omega)] at c; rw [if_pos c] at hcn; rw [← hcn]; rfl
          obtain ⟨j, hj⟩ := key3
          exact ⟨j, hj hr⟩
      obtain ⟨j, hj⟩ := key2
      exact ⟨j, hj hr⟩
  obtain ⟨j, hj⟩ := key
  exact ⟨j, hj hres⟩
theorem frF_never {g : Nat → Int32 → Int32} {k : Int32} : ∀ (n x : Nat), (∀ j, x ≤ j → j < x + n → g j = fun k => k) → frF g k n x = k
  | 0, x, _ => rfl
  | n + 1, x, h => by
    show g x (frF g k n (x + 1)) = k
    rw [h x (by omega) (by omega)]
    exact frF_never n (x + 1) (fun j h1 h2 => h j (by omega) (by omega))
theorem fitR_m1 {is : Nat → Bool} {val : Nat → Int32} {N : Nat} (hN : N < 1000000) : fitR is val (-1) N = nI (cntB is N) := by
  unfold fitR
  rw [frF_never, if_neg (by decide)]
  intro j _ hj
  funext k
  have h1 := cntB_le is j
  have h2 : ¬ nI (cntB is j) = -1 := by
    intro e
    rw [eqI, nI_toI (by omega)] at e
    have : (-1 : Int32).toInt = -1 := rfl
    omega
  rw [decide_eq_false h2]
  simp
theorem s_M_fits {post : Int32 → Mem → Prop} {M : Mem} (hI : WInv (M 1)) (h : Qr post M (qi 0 (nI (cntB (isJ (M 1)) (10 + 90 * nn (M 1 0)))))) : P_M_fits post M := by
  have := hI.nP
  refine th0 (s_M_fitAt (by rw [thr1]; exact hI) ?_)
  rw [thr1, fitR_m1 (by omega)]
  exact Qr.plain h
theorem s_M_fit {post : Int32 → Mem → Prop} {i : Int32} {M : Mem} (hI : WInv (M 1)) (h : Qr post M (qi 0 (if 0 ≤ i then fitR (isJ (M 1)) (vlJ (nn (M 1 0))) i (10 + 90 * nn (M 1 0)) else -1))) : P_M_fit post i M := by
  refine th0 ⟨fun c => s_M_fitAt (by rw [thr1]; exact hI) ?_, fun c => ?_⟩
  · rw [if_pos c] at h
    rw [thr1]
    exact Qr.plain h
  · rw [if_neg c] at h
    exact Qr.plain h
/-! look -/
def lkA (w : Nat → Int32) (r : Nat) (what : Int32) : Int32 :=
  if 5 ≤ what then (if what = 8 then bi (ghB w r) else if what = 5 then tpl w (w (192 + 5 * r)) (w (193 + 5 * r)) else I (edZ w (tpl w (w (192 + 5 * r)) (w (193 + 5 * r))).toInt (decide (what = 7)))) else w (191 + 5 * r + nn what)
theorem s_M_look {post : Int32 → Mem → Prop} {r what : Int32} {M : Mem} (hI : WInv (M 1)) (h : Qr post M (if !inb r 0 (M 1 9 - 1) then qi 1 0 else if !inb what 0 8 then qi 2 0 else qi 0 (lkA (M 1) (nn r) what))) : P_M_look post r what M := by
  have hr : thr M 0 1 = M 1 := thr1 M
  have e0 : (0 : Int32).toInt = 0 := rfl
  have e8 : (8 : Int32).toInt = 8 := rfl
  have e5 : (5 : Int32).toInt = 5 := rfl
  refine th0 (s_M_none (c := 9) (by omega) (tIn0 (fun c1 => s_M_in (bn0 (fun c2 => ?_) (fun c2 => ?_))) (fun c1 => ?_)))
  · rw [hr] at c1
    simp only [c1, c2, Bool.false_eq_true, if_false, Bool.not_false, if_true] at h
    exact tI0n (b := true) (fun e => absurd e (by decide)) (fun _ => Qr.thrown h)
  · rw [hr] at c1
    simp only [c1, c2, Bool.false_eq_true, if_false, Bool.not_true] at h
    obtain ⟨he, he9, he24⟩ := hI.inr (bnot c1)
    rw [he] at ⊢
    generalize nn r = n at *
    unfold lkA at h
    simp only [inb, decide_eq_true_eq, leI] at c2
    refine tI0n (b := false) (fun _ => ⟨fun c3 => ?_, fun c3 => ?_⟩) (fun e => absurd e (by decide))
    · rw [if_pos c3] at h
      have hrd := hI.rd he24
      have htp := hI.tp (d := M 1 (193 + 5 * n)) hrd.2.1
      refine ⟨fun c4 => s_M_of (k := 1) he24 (by omega) (s_M_of (k := 2) he24 (by omega) (s_M_truePlace (by rw [hr]; exact hI.per) ⟨fun c5 => s_M_lays (s := 0) (by rw [hr]; exact hI) (by omega) (fun M' h1 h2 => ?_), fun c5 => ?_⟩)), fun c4 => s_M_isGhost (by rw [hr]; exact hI) he24 ?_⟩
      · rw [if_neg c4, if_neg c5] at h
        rw [hr] at h2 ⊢
        have w1 : M' 1 = M 1 := by rw [h1 1 (by omega) (by omega), hr]
        have hU : post (I (edZ (M 1) (tpl (M 1) (M 1 (192 + 5 * n)) (M 1 (193 + 5 * n))).toInt (decide (what = 7)))) M' := h M' ((thr_same M 0).trans (MSame.of fun c hc => h1 c (by omega) (by omega))) (by rw [h1 0 (by omega) (by omega)]; exact thr_0 M 0)
        rw [show 191 + 5 * n + 1 = 192 + 5 * n by omega, show 191 + 5 * n + 2 = 193 + 5 * n by omega]
        have fin : ∀ b : Bool, decide (what = 7) = b → P_M_look_120 post (tpl (M 1) (M 1 (192 + 5 * n)) (M 1 (193 + 5 * n))) (bi b) M' := by
          intro b hb
          unfold P_M_look_120
          rw [I_ofS (tpl (M 1) (M 1 (192 + 5 * n)) (M 1 (193 + 5 * n)))]
          unfold rg at htp
          refine s_M_endOf (by rw [w1]; exact hI) (by rw [w1]; exact h2) (by omega) ?_
          rw [w1, ← hb]; exact hU
        exact ⟨fun c6 => fin false (decide_eq_false c6), fun c6 => fin true (decide_eq_true c6)⟩
      · rw [if_neg c4, if_pos c5] at h
        rw [hr, show 191 + 5 * n + 1 = 192 + 5 * n by omega, show 191 + 5 * n + 2 = 193 + 5 * n by omega]
        exact Qr.plain h
      · rw [if_pos c4] at h
        rw [hr]
        exact bsel (F := fun z => P_M_look_76 post z (thr M 0)) (Qr.plain h)
    · rw [if_neg c3] at h
      rw [leI] at c3
      obtain ⟨hw, hw2⟩ := nn_of (x := what) (lo := 0) (hi := 8) ⟨by omega, by omega⟩ (by omega)
      have hk : nn what < 5 := by omega
      rw [hw]
      refine s_M_of (k := nn what) he24 hk ?_
      rw [hr]
      exact Qr.plain h
  · rw [hr] at c1
    simp only [c1, if_true] at h
    exact Qr.thrown h
/-! drift -/
def dfF (dx : Int → Bool) : Nat → Nat × Int32
  | 0 => (0, 99)
  | t + 1 => if dx ((t : Int) - 30) then ((dfF dx t).1 + 1, if jabs (dfF dx t).2 ≤ jabs (I ((t : Int) - 30)) then (dfF dx t).2 else I ((t : Int) - 30)) else dfF dx t
theorem dfF_le (dx : Int → Bool) : ∀ t, (dfF dx t).1 ≤ t
  | 0 => Nat.le_refl _
  | t + 1 => by have := dfF_le dx t; unfold dfF; split <;> (try simp only []) <;> omega
theorem s_M_drift {post : Int32 → Mem → Prop} {p set : Int32} {near : Bool} {dx : Int → Bool} {M : Mem} (hI : WInv (M 1))
    (hdx : inb p 0 (M 1 8 - 1) = true → ∀ t lo hi, -30 ≤ t → t ≤ 30 → SpOK (M 1) p t lo hi (nn (M 1 9)) → exB (M 1) lo hi (nn p) set 0 = dx t)
    (h : Qr post M (qp1 (inb p 0 (M 1 8 - 1)) (if near then (dfF dx 61).2 else nI (dfF dx 61).1))) : P_M_drift post p set (bi near) M := by
  have hr : thr M 0 1 = M 1 := thr1 M
  refine th0 (s_M_none (c := 8) (by omega) ?_)
  rw [hr]
  refine tI0n (fun c => ?_) (fun c => ?_)
  · simp only [qp1, bnot c] at h
    have hdx := hdx (bnot c)
    obtain ⟨hp, hp3⟩ := hI.inp (bnot c)
    refine s_M_lays (s := 0) (by rw [hr]; exact hI) (by omega) (fun M' h1 h2 => ?_)
    rw [hr] at h2
    have hS0 : MSame M M' := (thr_same M 0).trans (MSame.of fun c hc => h1 c (by omega) (by omega))
    have h00 : M' 0 0 = 0 := by rw [h1 0 (by omega) (by omega)]; exact thr_0 M 0
    have hle := dfF_le dx
    generalize hF : dfF dx = F at h hle
    have key : ∃ j, ∀ M2, MSame M M2 → M2 0 0 = 0 → LaOK (M 1) 0 M2 1710 → P_M_drift_39 post j p set (bi near) (nI (F 0).1) (F 0).2 (I (((0 : Nat) : Int) - 30)) M2 := by
      refine lpN (R := fun j t => ∀ M2, MSame M M2 → M2 0 0 = 0 → LaOK (M 1) 0 M2 1710 → P_M_drift_39 post j p set (bi near) (nI (F t).1) (F t).2 (I ((t : Int) - 30)) M2) (N := 61) (fun n M2 hS h0 hL => ?_) (fun n t ht ih M2 hS h0 hL => ?_)
      · refine ⟨fun _ => ?_, fun c => absurd (show (30 : Int32) < I ((61 : Nat) - 30) by decide) c⟩
        have h := h M2 hS h0
        refine b0n (fun c => ?_) (fun c => ?_)
        · rw [c] at h; exact h
        · rw [c] at h; exact h
      · refine ⟨fun c => ?_, fun _ => ?_⟩
        · rw [show (30 : Int32) = I 30 from rfl, I_lt (by omega) (by omega)] at c; omega
        have w1 : M2 1 = M 1 := hS.1
        refine s_M_drifts (by rw [w1]; exact hI) (by rw [w1]; exact hL) (by omega) (fun M3 a1 a2 => ?_)
        rw [w1] at a2
        have w3 : M3 1 = M 1 := by rw [a1 1 (by omega) (by omega), w1]
        have hS3 : MSame M M3 := hS.trans (MSame.of fun c hc => a1 c (by omega) (by omega))
        have h03 : M3 0 0 = 0 := by rw [a1 0 (by omega) (by omega)]; exact h0
        have hL3 : LaOK (M 1) 0 M3 1710 := hL.mono (a1 3 (by omega) (by omega)) (a1 4 (by omega) (by omega))
        have ih := ih M3 hS3 h03 hL3
        have e1 : I ((t : Int) - 30) + (1 : Int32) = I (((t + 1 : Nat) : Int) - 30) := by rw [I_1, I_add]; congr 1; omega
        rw [← e1] at ih
        have hx := hdx ((t : Int) - 30) (M3 5) (M3 6) (by omega) (by omega) a2
        have eF : F (t + 1) = if dx ((t : Int) - 30) then ((F t).1 + 1, if jabs (F t).2 ≤ jabs (I ((t : Int) - 30)) then (F t).2 else I ((t : Int) - 30)) else F t := by rw [← hF]; rfl
        have go : P_M_explainsBy (fun r2 M2 =>
            (¬ r2 = 0 → (P_Math_abs (fun r3 M3 =>
            P_Math_abs (fun r4 M4 =>
            (r4 ≤ r3 → (P_M_drift_86 post (P_M_drift_39 post n) p set (bi near) (nI (F t).1 + (1 : Int32)) (F t).2 (I ((t : Int) - 30)) M4)) ∧
            (¬ r4 ≤ r3 → (P_M_drift_86 post (P_M_drift_39 post n) p set (bi near) (nI (F t).1 + (1 : Int32)) (I ((t : Int) - 30)) (I ((t : Int) - 30)) M4))) (F t).2 M3) (I ((t : Int) - 30)) M2)) ∧
            (r2 = 0 → (P_M_drift_86 post (P_M_drift_39 post n) p set (bi near) (nI (F t).1) (F t).2 (I ((t : Int) - 30)) M2))) (nI (nn p)) set (0 : Int32) M3 := by
          refine s_M_explainsBy (by rw [w3]; exact hI) hp3 ?_
          rw [w3, hx]
          refine bn0 (fun c2 => ?_) (fun c2 => s_abs (s_abs ⟨fun c3 => ?_, fun c3 => ?_⟩))
          · rw [c2] at eF; rw [eF] at ih; exact ih
          · rw [c2, if_pos c3] at eF; rw [eF] at ih; rw [nI_1]; exact ih
          · rw [c2, if_neg c3] at eF; rw [eF] at ih; rw [nI_1]; exact ih
        rw [← hp] at go
        exact go
    obtain ⟨j, hj⟩ := key
    have hj := hj M' hS0 h00 h2
    rw [← hF] at hj
    exact ⟨j, hj⟩
  · simp only [qp1, bnot' c, Bool.not_false, if_true] at h
    exact Qr.thrown h
/-! makers, recipes -/
def mkF (w : Nat → Int32) (m : Nat) : Nat → Nat → Int32
  | 0 => w
  | e + 1 => upd (upd (mkF w m e) (311 + 2 * (6 * m + e)) 0) (312 + 2 * (6 * m + e)) 9
def oMaker (w : Nat → Int32) : OC := if nn (w 11) = 4 then (1, 0, w) else (0, w 11, mkF (upd w 11 (w 11 + 1)) (nn (w 11)) 6)
theorem rcI (m e : Nat) : (311 : Int32) + 2 * (6 * nI m + nI e) = nI (311 + 2 * (6 * m + e)) := by
  rw [lit_nI 6, lit_nI 2, lit_nI 311, pk_mul, nI_add, pk_mul, nI_add]
theorem s_M_maker {post : Int32 → Mem → Prop} {M : Mem} (hI : WInv (M 1)) (h : Qo post M (oMaker (M 1))) : P_M_maker post M := by
  unfold oMaker at h
  obtain ⟨hn, hn4⟩ := hI.nm
  have e5 : thr M 0 1 (11 : Int32).toNatClampNeg = nI (nn (M 1 11)) := by rw [thr1]; exact hn
  refine th0 ⟨vin_nI (n := 11) (by omega) (by omega), fun c8 => ?_, fun c8 => ?_⟩
  · rw [e5, show (4 : Int32) = nI 4 from rfl, nI_eq (by omega) (by omega)] at c8
    simp only [if_neg c8] at h
    refine tI0n (b := false) (fun _ => ⟨vin_nI (n := 11) (by omega) (by omega), fun x1 e1 => ⟨vin_nI (n := 11) (by omega) (by omega), vin_nI (n := 11) (by omega) (by omega), fun M3 m3 => ?_⟩⟩) (fun e => absurd e (by decide))
    rw [e5] at e1
    have hU : US M 0 (upd (M 1) 11 (M 1 11 + 1)) M3 := by subst m3; rw [e5, ← hn]; exact (US.z M).put 11 _
    subst e1
    generalize upd (M 1) 11 (M 1 11 + 1) = w0 at *
    rw [hn] at h
    generalize nn (M 1 11) = m at *
    rw [show nn (nI m) = m by unfold nn; rw [nI_toI (by omega)]; rfl] at h
    have key : ∃ j, ∀ M2, US M 0 (mkF w0 m 0) M2 → P_M_maker_52 post j (nI m) (nI 0) M2 := by
      refine lpN (R := fun j e => ∀ M2, US M 0 (mkF w0 m e) M2 → P_M_maker_52 post j (nI m) (nI e) M2) (N := 6) (fun n M2 hU2 => ?_) (fun n e he ih M2 hU2 => ?_)
      · exact brSt (N := 6) rfl (h M2 hU2)
      · refine brGo (N := 6) rfl (by omega) he ?_
        rw [rcI, nI_clamp (by omega)]
        refine ⟨vin_nI (by omega) (by omega), fun M4 m4 v2 e2 => ?_⟩
        have e3 : v2 = nI (312 + 2 * (6 * m + e)) := by rw [e2, nI_1]; congr 1; omega
        rw [e3, nI_clamp (by omega)]
        refine ⟨vin_nI (by omega) (by omega), fun M5 m5 => ?_⟩
        rw [nI_1]
        subst m4 m5
        exact ih _ ((hU2.put _ _).put _ _)
    obtain ⟨j, hj⟩ := key
    exact ⟨j, hj M3 hU⟩
  · rw [e5, show (4 : Int32) = nI 4 from rfl, nI_eq (by omega) (by omega)] at c8
    simp only [if_pos c8] at h
    exact tI0n (b := true) (fun e => absurd e (by decide)) (fun _ => Qo.bad h)
def oRecipe (w : Nat → Int32) (m e a b : Int32) : OC :=
  if !(inb m 0 (w 11 - 1) && inb e 0 5) then (1, 0, w) else if !(inb a 0 b && decide (b ≤ 9)) then (2, 0, w) else (0, 0, upd (upd w (311 + 2 * (6 * nn m + nn e)) a) (312 + 2 * (6 * nn m + nn e)) b)
theorem s_M_recipe {post : Mem → Prop} {m e a b : Int32} {M : Mem} (hI : WInv (M 1)) (h : Qo (fun _ => post) M (oRecipe (M 1) m e a b)) : P_M_recipe post m e a b M := by
  unfold oRecipe at h
  have hr : thr M 0 1 = M 1 := thr1 M
  have bad : (inb m 0 (M 1 11 - 1) && inb e 0 5) = false → P_M_recipe_25 post m e a b (thr M 0) := by
    intro e2
    simp only [e2, Bool.not_false, if_true] at h
    exact tIn0 (b := true) (fun e => absurd e (by decide)) (fun _ => Qo.bad h)
  refine th0 (s_M_none (c := 11) (by omega) ?_)
  rw [hr]
  refine bn0 (fun c1 => s_M_in (bn0 (fun c2 => bad (by simp [c2])) (fun c2 => ?_))) (fun c1 => bad (by simp [bnot' c1]))
  obtain ⟨hm, hm4, hm4'⟩ := hI.inm (bnot c1)
  have he := c2
  simp only [inb, decide_eq_true_eq, leI] at he
  have e0 : (0 : Int32).toInt = 0 := rfl
  have e5 : (5 : Int32).toInt = 5 := rfl
  obtain ⟨hw, hw2⟩ := nn_of (x := e) (lo := 0) (hi := 5) ⟨by omega, by omega⟩ (by omega)
  have hk : nn e < 6 := by omega
  simp only [bnot c1, c2, Bool.and_self, Bool.not_true, Bool.false_eq_true, if_false] at h
  refine tIn0 (b := false) (fun _ => ?_) (fun e => absurd e (by decide))
  have bad2 : (inb a 0 b && decide (b ≤ 9)) = false → P_M_recipe_55 post m e a b (thr M 0) := by
    intro e2
    simp only [e2, Bool.not_false, if_true] at h
    exact tI0n (b := true) (fun e => absurd e (by decide)) (fun _ => Qo.bad h)
  refine s_M_in (b0n (fun c3 => bad2 (by simp [c3])) (fun c3 => ⟨fun c4 => ?_, fun c4 => bad2 (by simp [c4])⟩))
  simp only [c3, decide_eq_true c4, Bool.and_self, Bool.not_true, Bool.false_eq_true, if_false] at h
  refine tI0n (b := false) (fun _ => ?_) (fun e => absurd e (by decide))
  have er : (311 : Int32) + 2 * (6 * m + e) = nI (311 + 2 * (6 * nn m + nn e)) := by rw [← rcI, ← hm, ← hw]
  rw [er, nI_clamp (by omega)]
  refine ⟨vin_nI (by omega) (by omega), fun M4 m4 v2 e2 => ?_⟩
  have e3 : v2 = nI (312 + 2 * (6 * nn m + nn e)) := by rw [e2, nI_1]; congr 1; omega
  rw [e3, nI_clamp (by omega)]
  refine ⟨vin_nI (by omega) (by omega), fun M5 m5 => ?_⟩
  subst m4 m5
  exact h _ (((US.z M).put _ _).put _ _)
