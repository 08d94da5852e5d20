/-! A CLAIM'S STEPS OVER A PILE -/
def jn (k : Nat) (x y : Int32) : Int32 := if k = 9 then x + y else if k = 10 then bi (decide (x < y)) else if k = 11 then bi (decide (y < x)) else if k = 12 then x &&& y else x ||| y
def stp (ask : Nat → Int32) (c : Nat) (st : List Int32) : List Int32 :=
  if c % 32 < 8 then ask c :: st else match st with
  | [] => []
  | y :: r => if c % 32 = 8 then (1 - y) :: r else match r with
    | [] => []
    | x :: q => jn (c % 32) x y :: q
def evR (ask : Nat → Int32) : List Nat → List Int32 → List Int32
  | [], st => st
  | c :: cs, st => evR ask cs (stp ask c st)
/-- the pile's numbers are of their types -/
def VT : List Int32 → List Bool → Prop
  | [], [] => True
  | v :: vs, t :: ts => (t = true → v = 0 ∨ v = 1) ∧ VT vs ts
  | _, _ => False
theorem VT.len : ∀ {st : List Int32} {ty : List Bool}, VT st ty → st.length = ty.length
  | [], [], _ => rfl
  | v :: vs, t :: ts, h => by simp only [List.length_cons]; rw [VT.len h.2]
  | [], _ :: _, h => h.elim
  | _ :: _, [], h => h.elim
/-- what a step does to a pile of its types -/
theorem vt_step {ask : Nat → Int32} {c : Nat} {st : List Int32} {ty ty2 : List Bool} (hask : c % 32 = 6 ∨ c % 32 = 7 → ask c = 0 ∨ ask c = 1) (h : VT st ty) (ht : tyS c ty = some ty2) :
    VT (stp ask c st) ty2 ∧ ((c % 32 < 8 ∧ st.length < 32 ∧ stp ask c st = ask c :: st) ∨ (c % 32 = 8 ∧ ∃ y r, st = y :: r ∧ stp ask c st = (1 - y) :: r) ∨ (9 ≤ c % 32 ∧ c % 32 < 14 ∧ ∃ y x q, st = y :: x :: q ∧ stp ask c st = jn (c % 32) x y :: q ∧ (12 ≤ c % 32 → (x = 0 ∨ x = 1) ∧ (y = 0 ∨ y = 1)))) := by
  have hl := h.len
  unfold tyS at ht
  split at ht
  · rename_i c6
    split at ht
    · rename_i h32
      have e : ty2 = false :: ty := (Option.some.inj ht).symm
      have es : stp ask c st = ask c :: st := by unfold stp; rw [if_pos (by omega)]
      rw [e, es]
      exact ⟨⟨fun q => (by cases q), h⟩, Or.inl ⟨by omega, by omega, rfl⟩⟩
    · cases ht
  · rename_i c6
    split at ht
    · rename_i c8
      split at ht
      · rename_i h32
        have e : ty2 = true :: ty := (Option.some.inj ht).symm
        have es : stp ask c st = ask c :: st := by unfold stp; rw [if_pos (by omega)]
        rw [e, es]
        exact ⟨⟨fun _ => hask (by omega), h⟩, Or.inl ⟨by omega, by omega, rfl⟩⟩
      · cases ht
    · rename_i c8
      match st, ty, h, ht with
      | y :: r, tt :: tr, h, ht =>
        simp only [] at ht
        have h0 := h.1
        split at ht
        · rename_i c9
          split at ht
          · rename_i hx
            have e : ty2 = true :: tr := (Option.some.inj ht).symm
            have es : stp ask c (y :: r) = (1 - y) :: r := by unfold stp; rw [if_neg (by omega)]; simp only []; rw [if_pos c9]
            rw [e, es]
            refine ⟨⟨fun _ => ?_, h.2⟩, Or.inr (Or.inl ⟨c9, y, r, rfl, rfl⟩)⟩
            rcases h0 hx with rfl | rfl <;> decide
          · cases ht
        · rename_i c9
          match r, tr, h, ht with
          | x :: q, t2 :: tq, h, ht =>
            simp only [] at ht
            have es : stp ask c (y :: x :: q) = jn (c % 32) x y :: q := by unfold stp; rw [if_neg (by omega)]; simp only []; rw [if_neg c9]
            split at ht
            · rename_i c12
              split at ht
              · cases ht
              · have e : ty2 = decide (c % 32 ≠ 9) :: tq := (Option.some.inj ht).symm
                rw [e, es]
                refine ⟨⟨fun h9 => ?_, h.2.2⟩, Or.inr (Or.inr ⟨by omega, by omega, y, x, q, rfl, rfl, fun h12 => by omega⟩)⟩
                rw [decide_eq_true_eq] at h9
                unfold jn
                rw [if_neg h9]
                split
                · exact bi_01 _
                · rw [if_pos (by omega)]; exact bi_01 _
            · rename_i c12
              split at ht
              · rename_i hb
                simp only [Bool.and_eq_true, decide_eq_true_eq] at hb
                have e : ty2 = true :: tq := (Option.some.inj ht).symm
                rw [e, es]
                have hx := h.2.1 hb.1.2
                have hy := h0 hb.1.1
                refine ⟨⟨fun _ => ?_, h.2.2⟩, Or.inr (Or.inr ⟨by omega, hb.2, y, x, q, rfl, rfl, fun _ => ⟨hx, hy⟩⟩)⟩
                unfold jn
                rw [if_neg (by omega), if_neg (by omega), if_neg (by omega)]
                rcases hx with rfl | rfl <;> rcases hy with rfl | rfl <;> split <;> decide
              · cases ht
          | [], [], h, ht => cases ht
          | [], _ :: _, h, _ => exact h.2.elim
          | _ :: _, [], h, _ => exact h.2.elim
      | [], [], h, ht => cases ht
      | [], _ :: _, h, _ => exact h.elim
      | _ :: _, [], h, _ => exact h.elim
/-- the pile as it stands in a row -/
def PileOK (A : Nat → Int32) (st : List Int32) : Prop := ∀ k v, st[k]? = some v → A (st.length - 1 - k) = v
theorem PileOK.sub {A : Nat → Int32} {y : Int32} {r : List Int32} (h : PileOK A (y :: r)) : PileOK A r := by
  intro k v hv
  have := h (k + 1) v (by simpa using hv)
  rw [← this]
  congr 1
  simp only [List.length_cons]; omega
theorem PileOK.push {A : Nat → Int32} {r : List Int32} (h : PileOK A r) (v : Int32) : PileOK (upd A r.length v) (v :: r) := by
  intro k x hx
  cases k with
  | zero =>
    have e : v = x := by simpa using hx
    subst e
    simp only [List.length_cons, Nat.add_sub_cancel, Nat.sub_zero]
    exact upd_eq _ _ _
  | succ k =>
    have hx : r[k]? = some x := by simpa using hx
    have hk := (List.getElem?_eq_some_iff.mp hx).1
    rw [upd_ne _ _ (by simp only [List.length_cons]; omega), ← h k x hx]
    congr 1
    simp only [List.length_cons]; omega
theorem PileOK.top {A : Nat → Int32} {y : Int32} {r : List Int32} (h : PileOK A (y :: r)) : A r.length = y := by
  have := h 0 y rfl
  simpa using this
/-- what a step asks of a plate: S its tally -/
def askA (w : Nat → Int32) (S : Int32 × Int32 × Int32 × Int32) (p c : Nat) : Int32 :=
  if c % 32 = 0 then nI (c / 32) else if c % 32 = 1 then S.1 else if c % 32 = 2 then (if 0 ≤ S.2.1 then bcF S.2.1 else 99) else if c % 32 = 3 then nI (cntB (fun r => decide (w (191 + 5 * r) = nI p)) (nn (w 9))) else
  if c % 32 = 4 then nI (cntB (fun r => decide (w (191 + 5 * r) = nI p) && ghB w r) (nn (w 9))) else if c % 32 = 5 then jmin 9999 (I (toA w 0)) else if c % 32 = 6 then (S.2.2.1 >>> (nI (c / 32) &&& 31)) &&& 1 else (S.2.2.2 >>> (nI (c / 32) &&& 31)) &&& 1
theorem s_M_asked76 {post : Int32 → Mem → Prop} {p : Nat} {step : Int32} {gh : Bool} {M : Mem} (hI : WInv (M 1)) (hs : step = 2 ↔ gh = false) (h : post (nI (cntB (fun r => decide (M 1 (191 + 5 * r) = nI p) && (!gh || ghB (M 1) r)) (nn (M 1 9)))) M) : ∃ j, P_M_asked_76 post j step (nI p) 0 0 M := by
  obtain ⟨hn, hn24⟩ := hI.nr
  generalize hF : (fun r => decide (M 1 (191 + 5 * r) = nI p) && (!gh || ghB (M 1) r)) = F at h
  have eF : ∀ r, F r = (decide (M 1 (191 + 5 * r) = nI p) && (!gh || ghB (M 1) r)) := fun r => by rw [← hF]
  refine lpN (R := fun j r => P_M_asked_76 post j step (nI p) (nI (cntB F r)) (nI r) M) (N := nn (M 1 9)) (fun n => s_M_readings (brSt hn h)) (fun n r hr ih => s_M_readings (brGo hn (by omega) hr (s_M_of (k := 0) (by omega) (by omega) ?_)))
  have no : F r = false → P_M_asked_116 post (P_M_asked_76 post n) step (nI p) (nI r) (nI (cntB F r)) M := by
    intro e x4 e4
    simp only [cntB, e, Bool.false_eq_true, if_false, Nat.add_zero] at ih
    rw [e4, Int32.add_zero, nI_1]; exact ih
  have yes : F r = true → P_M_asked_112 post (P_M_asked_76 post n) step (nI p) (nI r) (nI (cntB F r)) M := by
    intro e x4 e4
    simp only [cntB, e, if_true] at ih
    rw [e4, nI_1, nI_1]; exact ih
  rw [show 191 + 5 * r + 0 = 191 + 5 * r from rfl]
  refine ⟨fun c => no ?_, fun c => ⟨fun c2 => yes ?_, fun c2 => s_M_isGhost hI (by omega) (b0n (fun c3 => no ?_) (fun c3 => yes ?_))⟩⟩
  · rw [eF, decide_eq_false c]; rfl
  · rw [eF, decide_eq_true c, hs.mp c2]; rfl
  · have hg : gh = true := by cases hq : gh with
      | true => rfl
      | false => exact absurd (hs.mpr hq) c2
    rw [eF, decide_eq_true c, hg, c3]; rfl
  · rw [eF, decide_eq_true c, c3]; simp
theorem s_M_asked {post : Int32 → Mem → Prop} {p c : Nat} {M : Mem} (hI : WInv (M 1)) (hc : c % 32 < 8) (h : ∀ M', (∀ k, k ≠ 3 → k ≠ 4 → M' k = M k) → post (askA (M 1) (tly M) p c) M') : P_M_asked post (trS c) (trV c) (nI p) M := by
  have hM := h M (fun _ _ _ => rfl)
  have ts : ∀ k s, c % 32 = k → [7, 0, 1, 2, 3, 4, 5, 6, 11, 8, 9, 10, 12, 13].getD k 0 = s → trS c = nI s := fun k s hk hs => by unfold trS; rw [hk, hs]
  unfold askA tly at hM
  rcases (by omega : c % 32 = 0 ∨ c % 32 = 1 ∨ c % 32 = 2 ∨ c % 32 = 3 ∨ c % 32 = 4 ∨ c % 32 = 5 ∨ c % 32 = 6 ∨ c % 32 = 7) with k | k | k | k | k | k | k | k
  · rw [ts 0 7 k rfl]
    rw [if_pos k] at hM
    exact ⟨fun q => absurd q (by decide), fun _ => ⟨fun q => absurd q (by decide), fun _ => ⟨fun q => absurd q (by decide), fun _ => ⟨fun q => absurd q (by decide), fun _ => ⟨fun q => absurd q (by decide), fun _ => ⟨fun q => absurd q (by decide), fun _ => ⟨fun q => absurd q (by decide), fun _ => hM⟩⟩⟩⟩⟩⟩⟩
  · rw [ts 1 0 k rfl]
    rw [if_neg (by omega), if_pos k] at hM
    exact ⟨fun _ => hM, fun q => absurd rfl q⟩
  · rw [ts 2 1 k rfl]
    rw [if_neg (by omega), if_neg (by omega), if_pos k] at hM
    refine ⟨fun q => absurd q (by decide), fun _ => ⟨fun _ => ⟨fun q => s_bitCount ?_, fun q => ?_⟩, fun q => absurd rfl q⟩⟩
    · rw [if_pos q] at hM; exact hM
    · rw [if_neg q] at hM; exact hM
  · rw [ts 3 2 k rfl]
    rw [if_neg (by omega), if_neg (by omega), if_neg (by omega), if_pos k] at hM
    refine ⟨fun q => absurd q (by decide), fun _ => ⟨fun q => absurd q (by decide), fun _ => ⟨fun _ => s_M_asked76 (gh := false) hI ⟨fun _ => rfl, fun _ => rfl⟩ ?_, fun q => absurd rfl q⟩⟩⟩
    simp only [Bool.not_false, Bool.true_or, Bool.and_true]; exact hM
  · rw [ts 4 3 k rfl]
    rw [if_neg (by omega), if_neg (by omega), if_neg (by omega), if_neg (by omega), if_pos k] at hM
    refine ⟨fun q => absurd q (by decide), fun _ => ⟨fun q => absurd q (by decide), fun _ => ⟨fun q => absurd q (by decide), fun _ => ⟨fun _ => s_M_asked76 (gh := true) hI ⟨fun q => absurd q (by decide), fun q => by cases q⟩ ?_, fun q => absurd rfl q⟩⟩⟩⟩
    simp only [Bool.not_true, Bool.false_or]; exact hM
  · rw [ts 5 4 k rfl]
    refine ⟨fun q => absurd q (by decide), fun _ => ⟨fun q => absurd q (by decide), fun _ => ⟨fun q => absurd q (by decide), fun _ => ⟨fun q => absurd q (by decide), fun _ => ⟨fun _ => s_M_lays (s := 0) hI (by omega) (fun M' h1 h2 => s_min ?_), fun q => absurd rfl q⟩⟩⟩⟩⟩
    have h := h M' h1
    unfold askA at h
    rw [if_neg (by omega), if_neg (by omega), if_neg (by omega), if_neg (by omega), if_neg (by omega), if_pos k] at h
    exact h
  · rw [ts 6 5 k rfl]
    rw [if_neg (by omega), if_neg (by omega), if_neg (by omega), if_neg (by omega), if_neg (by omega), if_neg (by omega), if_pos k] at hM
    exact ⟨fun q => absurd q (by decide), fun _ => ⟨fun q => absurd q (by decide), fun _ => ⟨fun q => absurd q (by decide), fun _ => ⟨fun q => absurd q (by decide), fun _ => ⟨fun q => absurd q (by decide), fun _ => ⟨fun _ => hM, fun q => absurd rfl q⟩⟩⟩⟩⟩⟩
  · rw [ts 7 6 k rfl]
    rw [if_neg (by omega), if_neg (by omega), if_neg (by omega), if_neg (by omega), if_neg (by omega), if_neg (by omega), if_neg (by omega)] at hM
    exact ⟨fun q => absurd q (by decide), fun _ => ⟨fun q => absurd q (by decide), fun _ => ⟨fun q => absurd q (by decide), fun _ => ⟨fun q => absurd q (by decide), fun _ => ⟨fun q => absurd q (by decide), fun _ => ⟨fun q => absurd q (by decide), fun _ => ⟨fun _ => hM, fun q => absurd rfl q⟩⟩⟩⟩⟩⟩⟩
theorem and1_01 (x : Int32) : x &&& 1 = 0 ∨ x &&& 1 = 1 := by
  by_cases h : gb x 0 = true
  · right; exact (and1_gb x).mpr h
  · left
    rw [gb_eq0]
    intro e he
    rw [gb_and]
    by_cases h0 : e = 0
    · subst h0; simp [h]
    · have : gb 1 e = false := by
        rw [show (1 : Int32) = nI 1 from rfl, gb_nI]
        have : ∀ e : Fin 32, e.1 ≠ 0 → Nat.testBit 1 e.1 = false := by decide
        rw [this ⟨e, he⟩ h0, Bool.and_false]
      rw [this, Bool.and_false]
theorem askA_01 {w : Nat → Int32} {S : Int32 × Int32 × Int32 × Int32} {p c : Nat} (h : c % 32 = 6 ∨ c % 32 = 7) : askA w S p c = 0 ∨ askA w S p c = 1 := by
  unfold askA
  rcases h with h | h
  · rw [if_neg (by omega), if_neg (by omega), if_neg (by omega), if_neg (by omega), if_neg (by omega), if_neg (by omega), if_pos h]; exact and1_01 _
  · rw [if_neg (by omega), if_neg (by omega), if_neg (by omega), if_neg (by omega), if_neg (by omega), if_neg (by omega), if_neg (by omega)]; exact and1_01 _
/-- what a claim says of a plate -/
def hoB (ask : Nat → Int32) (cd : List Nat) : Bool := decide ((evR ask cd []).headD 0 = 1)
theorem s_M_holds {post : Int32 → Mem → Prop} {n p : Int32} {cd : List Nat} {M : Mem} (hI : WInv (M 1)) (hcd : inb n 0 (M 1 10 - 1) = true → ClW (M 1) (nn n) cd ∧ cd.length ≤ 400 ∧ tyR cd [] = some [true])
    (h : Qs post M (fun lo hi => qp1 (inb n 0 (M 1 10 - 1) && inb p 0 (M 1 8 - 1)) (bi (hoB (askA (M 1) (stA (M 1) lo hi (nn p)) (nn p)) cd)))) : P_M_holds post n p M := by
  have bad : (inb n 0 (M 1 10 - 1) && inb p 0 (M 1 8 - 1)) = false → P_M_holds_26 post n p (thr M 0) := by
    intro e2
    exact tI0n (b := true) (fun e => absurd e (by decide)) (fun _ => h.bad (fun lo hi => by simp only [qp1, e2, Bool.not_false, if_true]))
  refine th0 (s_M_none (c := 10) (by omega) ?_)
  rw [thr1]
  refine bn0 (fun c1 => s_M_none (c := 8) (by omega) ?_) (fun c1 => bad (by simp [bnot' c1]))
  rw [thr1]
  refine b0n (fun c2 => ?_) (fun c2 => bad (by simp [bnot' c2]))
  refine tI0n (b := false) (fun _ => s_sp hI (fun M' hM h0 h1 hL hS => ?_)) (fun e => absurd e (by decide))
  have h := h _ _ hS
  simp only [qp1, bnot c1, bnot c2, Bool.and_self, Bool.not_true, Bool.false_eq_true, if_false] at h
  obtain ⟨hp, hp3⟩ := hI.inp (bnot c2)
  obtain ⟨hn, hn10, hn6⟩ := hI.inc (bnot c1)
  obtain ⟨hcl, hlen, hty⟩ := hcd (bnot c1)
  have hI' : WInv (M' 1) := by rw [h1]; exact hI
  rw [hp, hn]
  generalize nn n = cn at *
  generalize nn p = pn at *
  clear hp hn
  refine s_M_findsSets hI' hp3 (fun M2 hF ht => ?_)
  rw [h1] at ht
  have ht : tly M2 = stA (M 1) (M' 5) (M' 6) pn := ht
  rw [← ht] at h
  have w2 : M2 1 = M 1 := by rw [hF.1 1 (by omega), h1]
  have hpost : ∀ M3, (∀ k, k ≠ 3 → k ≠ 4 → k ≠ 12 → M3 k = M2 k) → post (bi (hoB (askA (M 1) (tly M2) pn) cd)) M3 := by
    intro M3 h3
    refine h M3 ((hM.trans hF.same).trans (MSame.of fun c hc => h3 c (by omega) (by omega) (by omega))) ?_
    rw [h3 0 (by omega) (by omega) (by omega), hF.2 0 (by omega) (by omega) (by omega) (by omega)]; exact h0
  have hask : ∀ c, (c % 32 = 6 ∨ c % 32 = 7) → askA (M 1) (tly M2) pn c = 0 ∨ askA (M 1) (tly M2) pn c = 1 := fun c hc => askA_01 hc
  have hasked : ∀ (c : Nat) (X : Int32 → Mem → Prop) (M3 : Mem), c % 32 < 8 → (∀ k, k ≠ 3 → k ≠ 4 → k ≠ 12 → M3 k = M2 k) → (∀ M4, (∀ k, k ≠ 3 → k ≠ 4 → M4 k = M3 k) → X (askA (M 1) (tly M2) pn c) M4) → P_M_asked X (trS c) (trV c) (nI pn) M3 := by
    intro c X M3 hc h3 hX
    have e0 : M3 0 = M2 0 := h3 0 (by omega) (by omega) (by omega)
    have e1 : M3 1 = M 1 := by rw [h3 1 (by omega) (by omega) (by omega), w2]
    refine s_M_asked (by rw [e1]; exact hI) hc (fun M4 h4 => ?_)
    have et : tly M3 = tly M2 := by unfold tly; rw [e0]
    rw [et, e1]
    exact hX M4 h4
  unfold hoB at hpost
  generalize askA (M 1) (tly M2) pn = ask at *
  generalize hfin : evR ask cd [] = fin at hpost
  have et : ∀ i : Nat, (359 : Int32) + 801 * nI cn = nI (359 + 801 * cn) := fun _ => ixI 359 801 cn
  have key : ∃ j, ∀ M3 st ty, (∀ k, k ≠ 3 → k ≠ 4 → k ≠ 12 → M3 k = M2 k) → VT st ty → tyR (cd.drop 0) ty = some [true] → evR ask (cd.drop 0) st = fin → PileOK (M3 12) st → st.length ≤ 32 → P_M_holds_54 post j (nI cn) (nI pn) (nI st.length) (nI 0) M3 := by
    refine lpN (R := fun j i => ∀ M3 st ty, (∀ k, k ≠ 3 → k ≠ 4 → k ≠ 12 → M3 k = M2 k) → VT st ty → tyR (cd.drop i) ty = some [true] → evR ask (cd.drop i) st = fin → PileOK (M3 12) st → st.length ≤ 32 → P_M_holds_54 post j (nI cn) (nI pn) (nI st.length) (nI i) M3) (N := cd.length) (fun j M3 st ty h3 hv hty hev hpi h32 => ?_) (fun j i hi ih M3 st ty h3 hv hty hev hpi h32 => ?_)
    · rw [List.drop_length] at hty hev
      have e1 : M3 1 = M 1 := by rw [h3 1 (by omega) (by omega) (by omega), w2]
      have hty : ty = [true] := Option.some.inj hty
      have hev : st = fin := hev
      subst hty
      show vp_in ((359 : Int32) + 801 * nI cn) 5966 ∧ (M3 1 ((359 : Int32) + 801 * nI cn).toNatClampNeg ≤ nI cd.length → _) ∧ _
      rw [et 0, nI_clamp (by omega), e1, hcl.1]
      refine ⟨vin_nI (by omega) (by omega), brSt rfl ⟨vin_nI (n := 0) (by omega) (by omega), ?_⟩⟩
      match st, hv, hev, hpi with
      | [v], hv, hev, hpi =>
        have e0 : M3 12 (0 : Int32).toNatClampNeg = v := hpi.top
        rw [e0]
        have hpost := hpost M3 h3
        rw [← hev] at hpost
        have hh : ([v] : List Int32).headD 0 = v := rfl
        rw [hh] at hpost
        refine ⟨fun q => ?_, fun q => ?_⟩
        · rw [decide_eq_false q] at hpost; exact ⟨Or.inl rfl, hpost⟩
        · rw [decide_eq_true q] at hpost; exact ⟨Or.inr rfl, hpost⟩
      | [], hv, _, _ => exact hv.elim
      | _ :: _ :: _, hv, _, _ => exact hv.2.elim
    · have e1 : M3 1 = M 1 := by rw [h3 1 (by omega) (by omega) (by omega), w2]
      have hdr : cd.drop i = cd[i] :: cd.drop (i + 1) := List.drop_eq_getElem_cons hi
      have hx : cd[i]? = some cd[i] := List.getElem?_eq_getElem hi
      obtain ⟨hx1, hx2⟩ := hcl.2 i _ hx
      rw [hdr] at hty hev
      generalize cd[i] = c at *
      simp only [tyR, evR] at hty hev
      cases hts : tyS c ty with
      | none => rw [hts] at hty; cases hty
      | some ty2 =>
        rw [hts] at hty
        simp only [] at hty
        obtain ⟨hv2, hsh⟩ := vt_step (hask c) hv hts
        show vp_in ((359 : Int32) + 801 * nI cn) 5966 ∧ (M3 1 ((359 : Int32) + 801 * nI cn).toNatClampNeg ≤ nI i → _) ∧ (¬ M3 1 ((359 : Int32) + 801 * nI cn).toNatClampNeg ≤ nI i → ∀ i3, i3 = (359 : Int32) + 801 * nI cn + 1 + 2 * nI i → _)
        rw [et 0, nI_clamp (by omega), e1, hcl.1]
        refine ⟨vin_nI (by omega) (by omega), brGo rfl (by omega) hi (fun i3 e3 => ?_)⟩
        have e3 : i3 = nI (360 + 801 * cn + 2 * i) := by rw [e3, nI_1, lit_nI 2, pk_mul, nI_add]; congr 1; omega
        rw [e3, nI_clamp (by omega), hx1]
        refine ⟨vin_nI (by omega) (by omega), ?_⟩
        have hts7 : (7 < trS c) ↔ 8 ≤ c % 32 := by
          unfold trS
          rcases hsh with ⟨h8, _⟩ | ⟨h8, _⟩ | ⟨h8, h14, _⟩
          · rcases (by omega : c % 32 = 0 ∨ c % 32 = 1 ∨ c % 32 = 2 ∨ c % 32 = 3 ∨ c % 32 = 4 ∨ c % 32 = 5 ∨ c % 32 = 6 ∨ c % 32 = 7) with k | k | k | k | k | k | k | k <;> (rw [k]; decide)
          · rw [h8]; decide
          · rcases (by omega : c % 32 = 9 ∨ c % 32 = 10 ∨ c % 32 = 11 ∨ c % 32 = 12 ∨ c % 32 = 13) with k | k | k | k | k <;> (rw [k]; decide)
        rw [hts7]
        refine ⟨fun h8 => ?_, fun h8 => ?_⟩
        · rcases hsh with ⟨q8, _⟩ | ⟨q8, y, r, rfl, hst⟩ | ⟨q9, q14, y, x, q, rfl, hst, h01⟩
          · omega
          · have hs11 : trS c = 11 := by unfold trS; rw [q8]; rfl
            rw [hs11]
            refine ⟨fun z => absurd rfl z, fun _ => ?_⟩
            have el : nI (y :: r).length - 1 = nI r.length := by rw [List.length_cons, ← nI_1, i32_sub_add]
            rw [el, nI_clamp (by simp only [List.length_cons] at h32; omega)]
            refine ⟨vin_nI (by simp only [List.length_cons] at h32; omega) (by omega), vin_nI (by simp only [List.length_cons] at h32; omega) (by omega), fun M6 m6 => ?_⟩
            rw [hpi.top] at m6
            unfold P_M_holds_293
            rw [nI_1]
            rw [hst] at hv2 hev
            refine ih M6 ((1 - y) :: r) ty2 (fun k k3 k4 k12 => by rw [m6, ms_off _ _ _ k12, h3 k k3 k4 k12]) hv2 hty hev ?_ h32
            rw [m6, ms_row]
            exact hpi.sub.push _
          · have hne : ¬ trS c = 11 := by
              unfold trS
              rcases (by omega : c % 32 = 9 ∨ c % 32 = 10 ∨ c % 32 = 11 ∨ c % 32 = 12 ∨ c % 32 = 13) with k | k | k | k | k <;> (rw [k]; decide)
            simp only [List.length_cons] at h32
            refine ⟨fun _ => ?_, fun z => absurd z hne⟩
            intro i4 e4
            have el1 : nI (y :: x :: q).length + (-1) = nI (q.length + 1) := by
              rw [List.length_cons, List.length_cons, nI_I, show (-1 : Int32) = I (-1) from rfl, I_add, nI_I]; congr 1; omega
            have el2 : i4 = nI q.length := by rw [e4, el1, ← nI_1, i32_sub_add]
            rw [el1, el2, nI_clamp (by omega), nI_clamp (by omega)]
            have hy : M3 12 (q.length + 1) = y := hpi.top
            have hxx : M3 12 q.length = x := hpi.sub.top
            refine ⟨vin_nI (by omega) (by omega), vin_nI (by omega) (by omega), fun x7 e7 => ?_⟩
            rw [hy] at e7
            rw [hxx]
            subst e7
            rw [hst] at hv2 hev
            have put : ∀ v : Int32, v = jn (c % 32) x x7 → P_M_holds_292 post (P_M_holds_54 post j) (nI cn) (nI pn) (nI (q.length + 1)) (nI i) (nI (q.length + 1) - 1) v M3 := by
              intro v hvv
              have el3 : nI (q.length + 1) - 1 = nI q.length := by rw [← nI_1, i32_sub_add]
              rw [el3]
              refine ⟨vin_nI (by omega) (by omega), fun M6 m6 => ?_⟩
              rw [nI_clamp (by omega)] at m6
              unfold P_M_holds_293
              rw [nI_1]
              refine ih M6 (jn (c % 32) x x7 :: q) ty2 (fun k k3 k4 k12 => by rw [m6, ms_off _ _ _ k12, h3 k k3 k4 k12]) hv2 hty hev ?_ (by simp only [List.length_cons]; omega)
              rw [m6, ms_row, hvv]
              exact hpi.sub.sub.push _
            have fin : ∀ b : Bool, (c % 32 ≠ 9 → bi b = jn (c % 32) x x7) → P_M_holds_258 post (P_M_holds_54 post j) (nI cn) (nI pn) (nI (q.length + 1)) (nI i) (trS c) x x7 (bi b) M3 := by
              intro b hb
              refine ⟨fun z => ?_, fun z => put _ ?_⟩
              · have hc9 : c % 32 ≠ 9 := by
                  intro k; apply z; unfold trS; rw [k]; rfl
                exact bsel (F := fun v => P_M_holds_292 post (P_M_holds_54 post j) (nI cn) (nI pn) (nI (q.length + 1)) (nI i) (nI (q.length + 1) - 1) v M3) (put _ (hb hc9))
              · have hc9 : c % 32 = 9 := by
                  rcases (by omega : c % 32 = 9 ∨ c % 32 = 10 ∨ c % 32 = 11 ∨ c % 32 = 12 ∨ c % 32 = 13) with k | k | k | k | k
                  · exact k
                  all_goals (exfalso; revert z; unfold trS; rw [k]; decide)
                unfold jn; rw [if_pos hc9]
            have tsv : ∀ k s, c % 32 = k → [7, 0, 1, 2, 3, 4, 5, 6, 11, 8, 9, 10, 12, 13].getD k 0 = s → trS c = nI s := fun k s hk hs => by unfold trS; rw [hk, hs]
            refine ⟨fun n9 => ⟨fun n10 => ⟨fun n12 => ⟨fun z => fin false (fun h9 => ?_), fun z => fin true (fun h9 => ?_)⟩, fun y12 => ⟨fun z => fin false (fun _ => ?_), fun z => fin true (fun _ => ?_)⟩⟩, fun y10 => ⟨fun z => fin false (fun _ => ?_), fun z => fin true (fun _ => ?_)⟩⟩, fun y9 => ⟨fun z => fin false (fun _ => ?_), fun z => fin true (fun _ => ?_)⟩⟩
            · have k : c % 32 = 13 := by
                rcases (by omega : c % 32 = 9 ∨ c % 32 = 10 ∨ c % 32 = 11 ∨ c % 32 = 12 ∨ c % 32 = 13) with k | k | k | k | k
                · exact absurd k h9
                · exact absurd (tsv 10 9 k rfl) n9
                · exact absurd (tsv 11 10 k rfl) n10
                · exact absurd (tsv 12 12 k rfl) n12
                · exact k
              obtain ⟨hx0, hy0⟩ := h01 (by omega)
              rw [k]
              revert z
              rcases hx0 with rfl | rfl <;> rcases hy0 with rfl | rfl <;> decide
            · have k : c % 32 = 13 := by
                rcases (by omega : c % 32 = 9 ∨ c % 32 = 10 ∨ c % 32 = 11 ∨ c % 32 = 12 ∨ c % 32 = 13) with k | k | k | k | k
                · exact absurd k h9
                · exact absurd (tsv 10 9 k rfl) n9
                · exact absurd (tsv 11 10 k rfl) n10
                · exact absurd (tsv 12 12 k rfl) n12
                · exact k
              obtain ⟨hx0, hy0⟩ := h01 (by omega)
              rw [k]
              revert z
              rcases hx0 with rfl | rfl <;> rcases hy0 with rfl | rfl <;> decide
            · have k : c % 32 = 12 := by
                rcases (by omega : c % 32 = 9 ∨ c % 32 = 10 ∨ c % 32 = 11 ∨ c % 32 = 12 ∨ c % 32 = 13) with k | k | k | k | k
                · rw [tsv 9 8 k rfl] at y12; exact absurd y12 (by decide)
                · rw [tsv 10 9 k rfl] at y12; exact absurd y12 (by decide)
                · rw [tsv 11 10 k rfl] at y12; exact absurd y12 (by decide)
                · exact k
                · rw [tsv 13 13 k rfl] at y12; exact absurd y12 (by decide)
              obtain ⟨hx0, hy0⟩ := h01 (by omega)
              rw [k]
              revert z
              rcases hx0 with rfl | rfl <;> rcases hy0 with rfl | rfl <;> decide
            · have k : c % 32 = 12 := by
                rcases (by omega : c % 32 = 9 ∨ c % 32 = 10 ∨ c % 32 = 11 ∨ c % 32 = 12 ∨ c % 32 = 13) with k | k | k | k | k
                · rw [tsv 9 8 k rfl] at y12; exact absurd y12 (by decide)
                · rw [tsv 10 9 k rfl] at y12; exact absurd y12 (by decide)
                · rw [tsv 11 10 k rfl] at y12; exact absurd y12 (by decide)
                · exact k
                · rw [tsv 13 13 k rfl] at y12; exact absurd y12 (by decide)
              obtain ⟨hx0, hy0⟩ := h01 (by omega)
              rw [k]
              revert z
              rcases hx0 with rfl | rfl <;> rcases hy0 with rfl | rfl <;> decide
            · have k : c % 32 = 11 := by
                rcases (by omega : c % 32 = 9 ∨ c % 32 = 10 ∨ c % 32 = 11 ∨ c % 32 = 12 ∨ c % 32 = 13) with k | k | k | k | k
                · rw [tsv 9 8 k rfl] at y10; exact absurd y10 (by decide)
                · rw [tsv 10 9 k rfl] at y10; exact absurd y10 (by decide)
                · exact k
                · rw [tsv 12 12 k rfl] at y10; exact absurd y10 (by decide)
                · rw [tsv 13 13 k rfl] at y10; exact absurd y10 (by decide)
              unfold jn
              rw [if_neg (by omega), if_neg (by omega), if_pos k, decide_eq_false (by rw [leI] at z; rw [ltI]; omega)]
            · have k : c % 32 = 11 := by
                rcases (by omega : c % 32 = 9 ∨ c % 32 = 10 ∨ c % 32 = 11 ∨ c % 32 = 12 ∨ c % 32 = 13) with k | k | k | k | k
                · rw [tsv 9 8 k rfl] at y10; exact absurd y10 (by decide)
                · rw [tsv 10 9 k rfl] at y10; exact absurd y10 (by decide)
                · exact k
                · rw [tsv 12 12 k rfl] at y10; exact absurd y10 (by decide)
                · rw [tsv 13 13 k rfl] at y10; exact absurd y10 (by decide)
              unfold jn
              rw [if_neg (by omega), if_neg (by omega), if_pos k, decide_eq_true (by rw [leI] at z; rw [ltI]; omega)]
            · have k : c % 32 = 10 := by
                rcases (by omega : c % 32 = 9 ∨ c % 32 = 10 ∨ c % 32 = 11 ∨ c % 32 = 12 ∨ c % 32 = 13) with k | k | k | k | k
                · rw [tsv 9 8 k rfl] at y9; exact absurd y9 (by decide)
                · exact k
                · rw [tsv 11 10 k rfl] at y9; exact absurd y9 (by decide)
                · rw [tsv 12 12 k rfl] at y9; exact absurd y9 (by decide)
                · rw [tsv 13 13 k rfl] at y9; exact absurd y9 (by decide)
              unfold jn
              rw [if_neg (by omega), if_pos k, decide_eq_false (by rw [leI] at z; rw [ltI]; omega)]
            · have k : c % 32 = 10 := by
                rcases (by omega : c % 32 = 9 ∨ c % 32 = 10 ∨ c % 32 = 11 ∨ c % 32 = 12 ∨ c % 32 = 13) with k | k | k | k | k
                · rw [tsv 9 8 k rfl] at y9; exact absurd y9 (by decide)
                · exact k
                · rw [tsv 11 10 k rfl] at y9; exact absurd y9 (by decide)
                · rw [tsv 12 12 k rfl] at y9; exact absurd y9 (by decide)
                · rw [tsv 13 13 k rfl] at y9; exact absurd y9 (by decide)
              unfold jn
              rw [if_neg (by omega), if_pos k, decide_eq_true (by rw [leI] at z; rw [ltI]; omega)]
        · obtain ⟨q8, q32, hst⟩ : c % 32 < 8 ∧ st.length < 32 ∧ stp ask c st = ask c :: st := by
            rcases hsh with h | ⟨q8, _⟩ | ⟨q9, _⟩
            · exact h
            · omega
            · omega
          show ∀ i8, i8 = (359 : Int32) + 801 * nI cn + 2 + 2 * nI i → _
          intro i8 e8
          have e8 : i8 = nI (361 + 801 * cn + 2 * i) := by rw [e8, et 0, lit_nI 2, pk_mul, nI_add, nI_add]; congr 1; omega
          rw [e8, show (nI (361 + 801 * cn + 2 * i)).toNatClampNeg = 361 + 801 * cn + 2 * i from nI_clamp (by omega), e1, hx2]
          refine ⟨vin_nI (by omega) (by omega), hasked c _ M3 q8 h3 (fun M4 h4 => ⟨vin_nI (by omega) (by omega), fun M5 m5 => ?_⟩)⟩
          rw [nI_clamp (by omega)] at m5
          unfold P_M_holds_293
          rw [nI_1, nI_1]
          rw [hst] at hv2 hev
          refine ih M5 (ask c :: st) ty2 (fun k k3 k4 k12 => by rw [m5, ms_off _ _ _ k12, h4 k k3 k4, h3 k k3 k4 k12]) hv2 hty hev ?_ (by simp only [List.length_cons]; omega)
          rw [m5, ms_row, h4 12 (by omega) (by omega)]
          exact hpi.push _
  obtain ⟨j, hj⟩ := key
  exact ⟨j, hj M2 [] [] (fun _ _ _ _ => rfl) trivial hty hfin (fun k v hv => by simp at hv) (by simp)⟩
