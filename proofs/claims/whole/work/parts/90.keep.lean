/-! THE ROW'S RANGES ARE KEPT -/
def rT (i : Nat) : Int × Int :=
  if i = 0 then (2, 50) else if i = 1 then (0, 9) else if i = 2 then (0, 49) else if i = 3 then (0, 9) else if i = 4 then (0, 50) else if i = 5 then (0, 8) else if i = 6 then (0, 10) else if i = 7 then (0, 6) else if i = 8 then (0, 3) else if i = 9 then (0, 24) else if i = 10 then (0, 6) else if i = 11 then (0, 4) else
  if i < 52 then (if (i - 12) % 5 = 0 then (0, 999) else if (i - 12) % 5 = 1 then (0, 1) else if (i - 12) % 5 = 2 then (0, 999) else if (i - 12) % 5 = 3 then (0, 1) else (0, 1200)) else
  if i < 92 then (if (i - 52) % 4 = 0 then (0, 999) else if (i - 52) % 4 = 1 then (0, 1) else if (i - 52) % 4 = 2 then (0, 9999) else (0, 1)) else
  if i < 176 then (if (i - 92) % 14 = 0 then (0, 1) else if (i - 92) % 14 = 1 then (0, 6) else if (i - 92) % 2 = 0 then (0, 9999) else (0, 9)) else
  if i < 191 then (if (i - 176) % 5 = 0 then (0, 9) else if (i - 176) % 5 = 1 then (0, 5) else if (i - 176) % 5 = 2 then (0, 9999) else if (i - 176) % 5 = 3 then (0, 9999) else (0, 500)) else
  if i < 311 then (if (i - 191) % 5 = 0 then (0, 2) else if (i - 191) % 5 = 1 then (0, 999) else if (i - 191) % 5 = 2 then (0, 1) else if (i - 191) % 5 = 3 then (0, 9) else (0, 9)) else (0, 9)
/-- ranges, all places in one line -/
def WI2 (w : Nat → Int32) : Prop := (∀ i, i < 359 → rg (w i) (rT i).1 (rT i).2) ∧ (w 2).toInt < (w 0).toInt
theorem rgT {x : Int32} {i : Nat} {a b : Int} (h : rg x (rT i).1 (rT i).2) (e : rT i = (a, b)) : rg x a b := by rw [e] at h; exact h
theorem rt_12_0 : ∀ k, k < 8 → rT (12 + 5 * k) = (0, 999) := by decide
theorem rt_12_1 : ∀ k, k < 8 → rT (13 + 5 * k) = (0, 1) := by decide
theorem rt_12_2 : ∀ k, k < 8 → rT (14 + 5 * k) = (0, 999) := by decide
theorem rt_12_3 : ∀ k, k < 8 → rT (15 + 5 * k) = (0, 1) := by decide
theorem rt_12_4 : ∀ k, k < 8 → rT (16 + 5 * k) = (0, 1200) := by decide
theorem rt_52_0 : ∀ k, k < 10 → rT (52 + 4 * k) = (0, 999) := by decide
theorem rt_52_1 : ∀ k, k < 10 → rT (53 + 4 * k) = (0, 1) := by decide
theorem rt_52_2 : ∀ k, k < 10 → rT (54 + 4 * k) = (0, 9999) := by decide
theorem rt_52_3 : ∀ k, k < 10 → rT (55 + 4 * k) = (0, 1) := by decide
theorem rt_176_0 : ∀ k, k < 3 → rT (176 + 5 * k) = (0, 9) := by decide
theorem rt_176_1 : ∀ k, k < 3 → rT (177 + 5 * k) = (0, 5) := by decide
theorem rt_176_2 : ∀ k, k < 3 → rT (178 + 5 * k) = (0, 9999) := by decide
theorem rt_176_3 : ∀ k, k < 3 → rT (179 + 5 * k) = (0, 9999) := by decide
theorem rt_176_4 : ∀ k, k < 3 → rT (180 + 5 * k) = (0, 500) := by decide
theorem rt_191_0 : ∀ k, k < 24 → rT (191 + 5 * k) = (0, 2) := by decide
theorem rt_191_1 : ∀ k, k < 24 → rT (192 + 5 * k) = (0, 999) := by decide
theorem rt_191_2 : ∀ k, k < 24 → rT (193 + 5 * k) = (0, 1) := by decide
theorem rt_191_3 : ∀ k, k < 24 → rT (194 + 5 * k) = (0, 9) := by decide
theorem rt_191_4 : ∀ k, k < 24 → rT (195 + 5 * k) = (0, 9) := by decide
theorem rt_311_0 : ∀ k, k < 24 → rT (311 + 2 * k) = (0, 9) := by decide
theorem rt_311_1 : ∀ k, k < 24 → rT (312 + 2 * k) = (0, 9) := by decide
theorem rt_92_0 : ∀ e, e < 6 → rT (92 + 14 * e) = (0, 1) := by decide
theorem rt_92_1 : ∀ e, e < 6 → rT (93 + 14 * e) = (0, 6) := by decide
theorem rt_92_2 : ∀ e, e < 6 → ∀ l, l < 6 → rT (94 + 14 * e + 2 * l) = (0, 9999) := by decide
theorem rt_92_3 : ∀ e, e < 6 → ∀ l, l < 6 → rT (95 + 14 * e + 2 * l) = (0, 9) := by decide
theorem wi_of {w : Nat → Int32} (h : WI2 w) : WInv w := by
  obtain ⟨h, h2⟩ := h
  have g : ∀ i a b, i < 359 → rT i = (a, b) → rg (w i) a b := fun i a b hi e => rgT (h i hi) e
  refine ⟨g 0 _ _ (by omega) rfl, g 1 _ _ (by omega) rfl, ⟨(g 2 0 49 (by omega) rfl).1, h2⟩, g 3 _ _ (by omega) rfl, g 4 _ _ (by omega) rfl, g 5 _ _ (by omega) rfl, g 6 _ _ (by omega) rfl, g 7 _ _ (by omega) rfl, g 8 _ _ (by omega) rfl, g 9 _ _ (by omega) rfl, g 10 _ _ (by omega) rfl, g 11 _ _ (by omega) rfl, ?_, ?_, ?_, ?_, ?_, ?_⟩
  · exact fun k hk => ⟨g _ _ _ (by omega) (rt_12_0 k hk), g _ _ _ (by omega) (rt_12_1 k hk), g _ _ _ (by omega) (rt_12_2 k hk), g _ _ _ (by omega) (rt_12_3 k hk), g _ _ _ (by omega) (rt_12_4 k hk)⟩
  · exact fun k hk => ⟨g _ _ _ (by omega) (rt_52_0 k hk), g _ _ _ (by omega) (rt_52_1 k hk), g _ _ _ (by omega) (rt_52_2 k hk), g _ _ _ (by omega) (rt_52_3 k hk)⟩
  · exact fun e he => ⟨g _ _ _ (by omega) (rt_92_0 e he), g _ _ _ (by omega) (rt_92_1 e he), fun l hl => ⟨g _ _ _ (by omega) (rt_92_2 e he l hl), g _ _ _ (by omega) (rt_92_3 e he l hl)⟩⟩
  · exact fun k hk => ⟨g _ _ _ (by omega) (rt_176_0 k hk), g _ _ _ (by omega) (rt_176_1 k hk), g _ _ _ (by omega) (rt_176_2 k hk), g _ _ _ (by omega) (rt_176_3 k hk), g _ _ _ (by omega) (rt_176_4 k hk)⟩
  · exact fun k hk => ⟨g _ _ _ (by omega) (rt_191_0 k hk), g _ _ _ (by omega) (rt_191_1 k hk), g _ _ _ (by omega) (rt_191_2 k hk), g _ _ _ (by omega) (rt_191_3 k hk), g _ _ _ (by omega) (rt_191_4 k hk)⟩
  · exact fun k hk => ⟨g _ _ _ (by omega) (rt_311_0 k hk), g _ _ _ (by omega) (rt_311_1 k hk)⟩
theorem of_wi {w : Nat → Int32} (h : WInv w) : WI2 w := by
  obtain ⟨h0, h1, h2, h3, h4, h5, h6, h7, h8, h9, h10, h11, b12, b52, b92, b176, b191, b311⟩ := h
  have g : ∀ i a b, rT i = (a, b) → rg (w i) a b → rg (w i) (rT i).1 (rT i).2 := fun i a b e h => by rw [e]; exact h
  refine ⟨fun i hi => ?_, h2.2⟩
  by_cases c0 : i < 12
  · rcases (show i = 0 ∨ i = 1 ∨ i = 2 ∨ i = 3 ∨ i = 4 ∨ i = 5 ∨ i = 6 ∨ i = 7 ∨ i = 8 ∨ i = 9 ∨ i = 10 ∨ i = 11 by omega) with rfl | rfl | rfl | rfl | rfl | rfl | rfl | rfl | rfl | rfl | rfl | rfl
    · exact h0
    · exact h1
    · refine g 2 0 49 rfl ?_; unfold rg at h0 ⊢; omega
    · exact h3
    · exact h4
    · exact h5
    · exact h6
    · exact h7
    · exact h8
    · exact h9
    · exact h10
    · exact h11
  by_cases c12 : i < 52
  · obtain ⟨k, j, e, hj⟩ : ∃ k j, i = 12 + 5 * k + j ∧ j < 5 := ⟨(i - 12) / 5, (i - 12) % 5, by omega, by omega⟩
    have hk : k < 8 := by omega
    obtain ⟨a0, a1, a2, a3, a4⟩ := b12 k hk
    rcases (show j = 0 ∨ j = 1 ∨ j = 2 ∨ j = 3 ∨ j = 4 by omega) with rfl | rfl | rfl | rfl | rfl
    · rw [show i = 12 + 5 * k by omega]; exact g _ _ _ (rt_12_0 k hk) a0
    · rw [show i = 13 + 5 * k by omega]; exact g _ _ _ (rt_12_1 k hk) a1
    · rw [show i = 14 + 5 * k by omega]; exact g _ _ _ (rt_12_2 k hk) a2
    · rw [show i = 15 + 5 * k by omega]; exact g _ _ _ (rt_12_3 k hk) a3
    · rw [show i = 16 + 5 * k by omega]; exact g _ _ _ (rt_12_4 k hk) a4
  by_cases c52 : i < 92
  · obtain ⟨k, j, e, hj⟩ : ∃ k j, i = 52 + 4 * k + j ∧ j < 4 := ⟨(i - 52) / 4, (i - 52) % 4, by omega, by omega⟩
    have hk : k < 10 := by omega
    obtain ⟨a0, a1, a2, a3⟩ := b52 k hk
    rcases (show j = 0 ∨ j = 1 ∨ j = 2 ∨ j = 3 by omega) with rfl | rfl | rfl | rfl
    · rw [show i = 52 + 4 * k by omega]; exact g _ _ _ (rt_52_0 k hk) a0
    · rw [show i = 53 + 4 * k by omega]; exact g _ _ _ (rt_52_1 k hk) a1
    · rw [show i = 54 + 4 * k by omega]; exact g _ _ _ (rt_52_2 k hk) a2
    · rw [show i = 55 + 4 * k by omega]; exact g _ _ _ (rt_52_3 k hk) a3
  by_cases c92 : i < 176
  · obtain ⟨k, j, e, hj⟩ : ∃ k j, i = 92 + 14 * k + j ∧ j < 14 := ⟨(i - 92) / 14, (i - 92) % 14, by omega, by omega⟩
    have hk : k < 6 := by omega
    obtain ⟨a0, a1, a2⟩ := b92 k hk
    by_cases d0 : j = 0
    · rw [show i = 92 + 14 * k by omega]; exact g _ _ _ (rt_92_0 k hk) a0
    by_cases d1 : j = 1
    · rw [show i = 93 + 14 * k by omega]; exact g _ _ _ (rt_92_1 k hk) a1
    obtain ⟨l, m, e2, hm⟩ : ∃ l m, j = 2 + 2 * l + m ∧ m < 2 := ⟨(j - 2) / 2, (j - 2) % 2, by omega, by omega⟩
    have hl : l < 6 := by omega
    rcases (show m = 0 ∨ m = 1 by omega) with rfl | rfl
    · rw [show i = 94 + 14 * k + 2 * l by omega]; exact g _ _ _ (rt_92_2 k hk l hl) (a2 l hl).1
    · rw [show i = 95 + 14 * k + 2 * l by omega]; exact g _ _ _ (rt_92_3 k hk l hl) (a2 l hl).2
  by_cases c176 : i < 191
  · obtain ⟨k, j, e, hj⟩ : ∃ k j, i = 176 + 5 * k + j ∧ j < 5 := ⟨(i - 176) / 5, (i - 176) % 5, by omega, by omega⟩
    have hk : k < 3 := by omega
    obtain ⟨a0, a1, a2, a3, a4⟩ := b176 k hk
    rcases (show j = 0 ∨ j = 1 ∨ j = 2 ∨ j = 3 ∨ j = 4 by omega) with rfl | rfl | rfl | rfl | rfl
    · rw [show i = 176 + 5 * k by omega]; exact g _ _ _ (rt_176_0 k hk) a0
    · rw [show i = 177 + 5 * k by omega]; exact g _ _ _ (rt_176_1 k hk) a1
    · rw [show i = 178 + 5 * k by omega]; exact g _ _ _ (rt_176_2 k hk) a2
    · rw [show i = 179 + 5 * k by omega]; exact g _ _ _ (rt_176_3 k hk) a3
    · rw [show i = 180 + 5 * k by omega]; exact g _ _ _ (rt_176_4 k hk) a4
  by_cases c191 : i < 311
  · obtain ⟨k, j, e, hj⟩ : ∃ k j, i = 191 + 5 * k + j ∧ j < 5 := ⟨(i - 191) / 5, (i - 191) % 5, by omega, by omega⟩
    have hk : k < 24 := by omega
    obtain ⟨a0, a1, a2, a3, a4⟩ := b191 k hk
    rcases (show j = 0 ∨ j = 1 ∨ j = 2 ∨ j = 3 ∨ j = 4 by omega) with rfl | rfl | rfl | rfl | rfl
    · rw [show i = 191 + 5 * k by omega]; exact g _ _ _ (rt_191_0 k hk) a0
    · rw [show i = 192 + 5 * k by omega]; exact g _ _ _ (rt_191_1 k hk) a1
    · rw [show i = 193 + 5 * k by omega]; exact g _ _ _ (rt_191_2 k hk) a2
    · rw [show i = 194 + 5 * k by omega]; exact g _ _ _ (rt_191_3 k hk) a3
    · rw [show i = 195 + 5 * k by omega]; exact g _ _ _ (rt_191_4 k hk) a4
  obtain ⟨k, j, e, hj⟩ : ∃ k j, i = 311 + 2 * k + j ∧ j < 2 := ⟨(i - 311) / 2, (i - 311) % 2, by omega, by omega⟩
  have hk : k < 24 := by omega
  obtain ⟨a0, a1⟩ := b311 k hk
  rcases (show j = 0 ∨ j = 1 by omega) with rfl | rfl
  · rw [show i = 311 + 2 * k by omega]; exact g _ _ _ (rt_311_0 k hk) a0
  · rw [show i = 312 + 2 * k by omega]; exact g _ _ _ (rt_311_1 k hk) a1
theorem WI2.put {w : Nat → Int32} (h : WI2 w) {i : Nat} {v : Int32} (h0 : i ≠ 0) (h2 : i ≠ 2) (hv : i < 359 → rg v (rT i).1 (rT i).2) : WI2 (upd w i v) := by
  refine ⟨fun j hj => ?_, by rw [upd_ne _ _ (Ne.symm h2), upd_ne _ _ (Ne.symm h0)]; exact h.2⟩
  by_cases e : j = i
  · subst e; rw [upd_eq]; exact hv hj
  · rw [upd_ne _ _ e]; exact h.1 j hj
theorem WInv.ext {w w2 : Nat → Int32} (h : WInv w) (e : ∀ k, k < 359 → w2 k = w k) : WInv w2 := wi_of ⟨fun i hi => by rw [e i hi]; exact (of_wi h).1 i hi, by rw [e 2 (by omega), e 0 (by omega)]; exact (of_wi h).2⟩
theorem rg_inb {x lo hi : Int32} (h : inb x lo hi = true) : rg x lo.toInt hi.toInt := by
  simp only [inb, decide_eq_true_eq, leI] at h
  exact h
theorem rg_w {x : Int32} {a b c d : Int} (h : rg x a b) (h1 : c ≤ a) (h2 : b ≤ d) : rg x c d := ⟨Int.le_trans h1 h.1, Int.le_trans h.2 h2⟩
theorem rg_bi (b : Bool) : rg (bi b) 0 1 := by cases b <;> exact ⟨by decide, by decide⟩
theorem rg_inc {x : Int32} {n m : Nat} (h : x = nI n) (h2 : n < m) (hm : m < 1000) : rg (x + 1) 0 m := by
  rw [h, lit_nI 1, nI_add]
  unfold rg
  rw [nI_toI (by omega)]
  omega
/-- an outcome keeps the ranges, the claims and their number -/
def KpO (w : Nat → Int32) (o : OC) : Prop := WInv o.2.2 ∧ ∀ k, (k = 10 ∨ 359 ≤ k) → o.2.2 k = w k
theorem KpO.same {w : Nat → Int32} (h : WInv w) (a b : Int32) : KpO w (a, b, w) := ⟨h, fun _ _ => rfl⟩
theorem kp_Error {w : Nat → Int32} {a : Int32} (h : WInv w) : KpO w (oError w a) := by
  unfold oError
  split
  · rename_i c
    exact ⟨wi_of ((of_wi h).put (by omega) (by omega) (fun _ => rg_w (rg_inb c) (by decide) (by decide))), fun k hk => upd_ne _ _ (by omega)⟩
  · exact KpO.same h _ _
theorem kp_Screw {w : Nat → Int32} {a b c d : Int32} (h : WInv w) : KpO w (oScrew w a b c d) := by
  unfold oScrew
  split
  · rename_i e
    simp only [Bool.and_eq_true] at e
    obtain ⟨⟨⟨e1, e2⟩, e3⟩, e4⟩ := e
    have h1 := rg_inb e1
    have h3 := rg_inb e3
    have e50 : (50 : Int32).toInt = 50 := rfl
    have e22 : (2 : Int32).toInt = 2 := rfl
    have e00 : (0 : Int32).toInt = 0 := rfl
    have e11 : (1 : Int32).toInt = 1 := rfl
    unfold rg at h1 h3
    rw [subI (by rw [e11]; omega) (by rw [e11]; omega), e11] at h3
    refine ⟨wi_of ⟨fun j hj => ?_, ?_⟩, fun k hk => by show upd (upd (upd (upd w 0 a) 1 b) 2 c) 3 d k = w k; rw [upd_ne _ _ (by omega), upd_ne _ _ (by omega), upd_ne _ _ (by omega), upd_ne _ _ (by omega)]⟩
    · show rg (upd (upd (upd (upd w 0 a) 1 b) 2 c) 3 d j) _ _
      by_cases c3 : j = 3
      · subst c3; rw [upd_eq]; exact rg_w (rg_inb e4) (by decide) (by decide)
      rw [upd_ne _ _ c3]
      by_cases c2 : j = 2
      · subst c2; rw [upd_eq]; show rg _ 0 49; unfold rg; omega
      rw [upd_ne _ _ c2]
      by_cases c1 : j = 1
      · subst c1; rw [upd_eq]; exact rg_w (rg_inb e2) (by decide) (by decide)
      rw [upd_ne _ _ c1]
      by_cases c0 : j = 0
      · subst c0; rw [upd_eq]; exact rg_w (rg_inb e1) (by decide) (by decide)
      rw [upd_ne _ _ c0]
      exact (of_wi h).1 j hj
    · show (upd (upd (upd (upd w 0 a) 1 b) 2 c) 3 d 2).toInt < (upd (upd (upd (upd w 0 a) 1 b) 2 c) 3 d 0).toInt
      rw [upd_ne _ _ (by omega), upd_eq, upd_ne _ _ (by omega), upd_ne _ _ (by omega), upd_ne _ _ (by omega), upd_eq]
      omega
  · exact KpO.same h _ _
theorem kp5 {w : Nat → Int32} {c n : Nat} {st : Nat} {x1 x2 x3 x4 x5 : Int32} {m : Nat} (h : WInv w) (hc0 : c ≠ 0) (hc2 : c ≠ 2) (hc : c < 10) (hst : 12 ≤ st) (hlt : st + 5 * n + 4 < 359) (hn : w c = nI n) (hm : n < m) (hm2 : m < 1000) (hcr : rT c = (0, (m : Int))) (h1 : rg x1 (rT (st + 5 * n)).1 (rT (st + 5 * n)).2) (h2 : rg x2 (rT (st + 5 * n + 1)).1 (rT (st + 5 * n + 1)).2) (h3 : rg x3 (rT (st + 5 * n + 2)).1 (rT (st + 5 * n + 2)).2) (h4 : rg x4 (rT (st + 5 * n + 3)).1 (rT (st + 5 * n + 3)).2) (h5 : rg x5 (rT (st + 5 * n + 4)).1 (rT (st + 5 * n + 4)).2) (a b : Int32) : KpO w (a, b, pu5 w c (st + 5 * n) x1 x2 x3 x4 x5) := by
  refine ⟨wi_of ?_, fun k hk => ?_⟩
  · exact ((((((of_wi h).put (by omega) (by omega) (fun _ => h1)).put (by omega) (by omega) (fun _ => h2)).put (by omega) (by omega) (fun _ => h3)).put (by omega) (by omega) (fun _ => h4)).put (by omega) (by omega) (fun _ => h5)).put hc0 hc2 (fun _ => by rw [hcr]; exact rg_inc hn hm hm2)
  · show pu5 w c (st + 5 * n) x1 x2 x3 x4 x5 k = w k
    unfold pu5
    rw [upd_ne _ _ (by omega), upd_ne _ _ (by omega), upd_ne _ _ (by omega), upd_ne _ _ (by omega), upd_ne _ _ (by omega), upd_ne _ _ (by omega)]
theorem kp_Gauge {w : Nat → Int32} {a b c : Int32} {ad bd : Bool} (h : WInv w) : KpO w (oGauge w a ad b bd c) := by
  unfold oGauge
  split
  · rename_i e
    simp only [Bool.and_eq_true] at e
    obtain ⟨⟨e1, e2⟩, e3⟩ := e
    split
    · exact KpO.same h _ _
    · obtain ⟨hn, hn8⟩ := h.ng
      refine kp5 h (by omega) (by omega) (by omega) (by omega) (by omega) hn (m := 8) (by omega) (by omega) rfl ?_ ?_ ?_ ?_ ?_ _ _
      · rw [rt_12_0 _ (by omega)]; exact rg_inb e1
      · rw [show 12 + 5 * nn (w 5) + 1 = 13 + 5 * nn (w 5) by omega, rt_12_1 _ (by omega)]; exact rg_bi _
      · rw [show 12 + 5 * nn (w 5) + 2 = 14 + 5 * nn (w 5) by omega, rt_12_2 _ (by omega)]; exact rg_inb e2
      · rw [show 12 + 5 * nn (w 5) + 3 = 15 + 5 * nn (w 5) by omega, rt_12_3 _ (by omega)]; exact rg_bi _
      · rw [show 12 + 5 * nn (w 5) + 4 = 16 + 5 * nn (w 5) by omega, rt_12_4 _ (by omega)]; exact rg_inb e3
  · exact KpO.same h _ _
theorem kp_Plate {w : Nat → Int32} {a b c d e : Int32} (h : WInv w) : KpO w (oPlate w a b c d e) := by
  unfold oPlate
  split
  · rename_i e0
    simp only [Bool.and_eq_true] at e0
    obtain ⟨⟨⟨⟨⟨e1, e2⟩, e3⟩, e4⟩, -⟩, e5⟩ := e0
    split
    · exact KpO.same h _ _
    · obtain ⟨hn, hn8⟩ := h.np
      refine kp5 h (by omega) (by omega) (by omega) (by omega) (by omega) hn (m := 3) (by omega) (by omega) rfl ?_ ?_ ?_ ?_ ?_ _ _
      · rw [rt_176_0 _ (by omega)]; exact rg_w (rg_inb e1) (by decide) (by decide)
      · rw [show 176 + 5 * nn (w 8) + 1 = 177 + 5 * nn (w 8) by omega, rt_176_1 _ (by omega)]; exact rg_w (rg_inb e2) (by decide) (by decide)
      · rw [show 176 + 5 * nn (w 8) + 2 = 178 + 5 * nn (w 8) by omega, rt_176_2 _ (by omega)]; exact rg_w (rg_inb e3) (by decide) (by decide)
      · rw [show 176 + 5 * nn (w 8) + 3 = 179 + 5 * nn (w 8) by omega, rt_176_3 _ (by omega)]; exact rg_w (rg_inb e4) (by decide) (by decide)
      · rw [show 176 + 5 * nn (w 8) + 4 = 180 + 5 * nn (w 8) by omega, rt_176_4 _ (by omega)]; exact rg_w (rg_inb e5) (by decide) (by decide)
  · exact KpO.same h _ _
theorem kp_Reading {w : Nat → Int32} {p a s v : Int32} {dn : Bool} (h : WInv w) : KpO w (oReading w p a dn s v) := by
  unfold oReading
  split
  · exact KpO.same h _ _
  · rename_i e0
    have e0 : inb p 0 (w 8 - 1) = true := by simpa using e0
    split
    · exact KpO.same h _ _
    · rename_i e1
      have e1 : (inb a 0 999 && inb s 1 9 && inb v 1 9) = true := by simpa using e1
      simp only [Bool.and_eq_true] at e1
      obtain ⟨⟨e1, e2⟩, e3⟩ := e1
      split
      · exact KpO.same h _ _
      · obtain ⟨hn, hn8⟩ := h.nr
        obtain ⟨hp, hp3⟩ := h.inp e0
        refine kp5 h (by omega) (by omega) (by omega) (by omega) (by omega) hn (m := 24) (by omega) (by omega) rfl ?_ ?_ ?_ ?_ ?_ _ _
        · rw [rt_191_0 _ (by omega), hp]; unfold rg; rw [nI_toI (by omega)]; exact ⟨by omega, by show (_ : Int) ≤ 2; omega⟩
        · rw [show 191 + 5 * nn (w 9) + 1 = 192 + 5 * nn (w 9) by omega, rt_191_1 _ (by omega)]; exact rg_w (rg_inb e1) (by decide) (by decide)
        · rw [show 191 + 5 * nn (w 9) + 2 = 193 + 5 * nn (w 9) by omega, rt_191_2 _ (by omega)]; exact rg_bi _
        · rw [show 191 + 5 * nn (w 9) + 3 = 194 + 5 * nn (w 9) by omega, rt_191_3 _ (by omega)]; exact rg_w (rg_inb e2) (by decide) (by decide)
        · rw [show 191 + 5 * nn (w 9) + 4 = 195 + 5 * nn (w 9) by omega, rt_191_4 _ (by omega)]; exact rg_w (rg_inb e3) (by decide) (by decide)
theorem kp_Known {w : Nat → Int32} {a b : Int32} {dn sp : Bool} (h : WInv w) : KpO w (oKnown w a dn b sp) := by
  unfold oKnown
  split
  · rename_i e
    simp only [Bool.and_eq_true] at e
    obtain ⟨e1, e2⟩ := e
    split
    · exact KpO.same h _ _
    · obtain ⟨hn, hn8⟩ := h.nk
      have hlt : nn (w 6) < 10 := by omega
      refine ⟨wi_of (((((of_wi h).put (by omega) (by omega) (fun _ => ?_)).put (by omega) (by omega) (fun _ => ?_)).put (by omega) (by omega) (fun _ => ?_)).put (by omega) (by omega) (fun _ => ?_) |>.put (i := 6) (by omega) (by omega) (fun _ => rg_inc (m := 10) hn hlt (by omega))), fun k hk => ?_⟩
      · rw [rt_52_0 _ (by omega)]; exact rg_w (rg_inb e1) (by decide) (by decide)
      · rw [show 52 + 4 * nn (w 6) + 1 = 53 + 4 * nn (w 6) by omega, rt_52_1 _ (by omega)]; exact rg_bi _
      · rw [show 52 + 4 * nn (w 6) + 2 = 54 + 4 * nn (w 6) by omega, rt_52_2 _ (by omega)]; exact rg_w (rg_inb e2) (by decide) (by decide)
      · rw [show 52 + 4 * nn (w 6) + 3 = 55 + 4 * nn (w 6) by omega, rt_52_3 _ (by omega)]; exact rg_bi _
      · show pu4 w 6 _ _ _ _ _ k = w k
        unfold pu4
        rw [upd_ne _ _ (by omega), upd_ne _ _ (by omega), upd_ne _ _ (by omega), upd_ne _ _ (by omega), upd_ne _ _ (by omega)]
  · exact KpO.same h _ _
theorem kp_Element {w : Nat → Int32} {air : Bool} (h : WInv w) : KpO w (oElement w air) := by
  unfold oElement
  split
  · exact KpO.same h _ _
  · obtain ⟨hn, hn6⟩ := h.ne
    refine ⟨wi_of ((((of_wi h).put (by omega) (by omega) (fun _ => ?_)).put (by omega) (by omega) (fun _ => ?_)).put (i := 7) (by omega) (by omega) (fun _ => rg_inc hn (m := 6) (by omega) (by omega))), fun k hk => ?_⟩
    · rw [rt_92_0 _ (by omega)]; exact rg_bi _
    · rw [rt_92_1 _ (by omega)]; exact ⟨by decide, by decide⟩
    · show upd (upd (upd w _ _) _ _) _ _ k = w k
      rw [upd_ne _ _ (by omega), upd_ne _ _ (by omega), upd_ne _ _ (by omega)]
theorem kp_Line {w : Nat → Int32} {e v s : Int32} (h : WInv w) : KpO w (oLine w e v s) := by
  unfold oLine
  split
  · exact KpO.same h _ _
  · rename_i e0
    have e0 : inb e 0 (w 7 - 1) = true := by simpa using e0
    split
    · exact KpO.same h _ _
    · rename_i e1
      have e1 : (inb v 1000 9999 && inb s 1 9) = true := by simpa using e1
      simp only [Bool.and_eq_true] at e1
      split
      · exact KpO.same h _ _
      · obtain ⟨he, -, he6⟩ := h.ine e0
        obtain ⟨hn, hn6⟩ := h.nl he6
        refine ⟨wi_of ((((of_wi h).put (by omega) (by omega) (fun _ => ?_)).put (by omega) (by omega) (fun _ => ?_)).put (i := 93 + 14 * nn e) (by omega) (by omega) (fun _ => ?_)), fun k hk => ?_⟩
        · rw [rt_92_2 _ he6 _ (by omega)]; exact rg_w (rg_inb e1.1) (by decide) (by decide)
        · rw [rt_92_3 _ he6 _ (by omega)]; exact rg_w (rg_inb e1.2) (by decide) (by decide)
        · rw [rt_92_1 _ he6]; exact rg_inc hn (m := 6) (by omega) (by omega)
        · show upd (upd (upd w _ _) _ _) _ _ k = w k
          rw [upd_ne _ _ (by omega), upd_ne _ _ (by omega), upd_ne _ _ (by omega)]
theorem kp_Away {w : Nat → Int32} (h : WInv w) : KpO w (oAway w) := by
  unfold oAway
  split
  · exact KpO.same h _ _
  · rename_i c
    obtain ⟨hn, hn24⟩ := h.nr
    have h0 : nn (w 9) ≠ 0 := fun e => c (by rw [hn, e]; rfl)
    refine ⟨wi_of ((of_wi h).put (i := 9) (by omega) (by omega) (fun _ => ?_)), fun k hk => upd_ne _ _ (by omega)⟩
    rw [hn, lit_nI 1, nI_sub (by omega)]
    show rg _ 0 24
    unfold rg
    rw [nI_toI (by omega)]
    omega
theorem kp_mk {w : Nat → Int32} {m : Nat} (h : WI2 w) (hm : m < 4) : ∀ n, n ≤ 6 → WI2 (mkF w m n) ∧ ∀ k, (k = 10 ∨ 359 ≤ k) → mkF w m n k = w k
  | 0, _ => ⟨h, fun _ _ => rfl⟩
  | e + 1, he => by
    obtain ⟨i1, i2⟩ := kp_mk h hm e (by omega)
    refine ⟨(i1.put (i := 311 + 2 * (6 * m + e)) (by omega) (by omega) (fun _ => ?_)).put (i := 312 + 2 * (6 * m + e)) (by omega) (by omega) (fun _ => ?_), fun k hk => ?_⟩
    · rw [rt_311_0 _ (by omega)]; exact ⟨by decide, by decide⟩
    · rw [rt_311_1 _ (by omega)]; exact ⟨by decide, by decide⟩
    · show upd (upd (mkF w m e) _ _) _ _ k = w k
      rw [upd_ne _ _ (by omega), upd_ne _ _ (by omega)]
      exact i2 k hk
theorem kp_Maker {w : Nat → Int32} (h : WInv w) : KpO w (oMaker w) := by
  unfold oMaker
  split
  · exact KpO.same h _ _
  · obtain ⟨hn, hn4⟩ := h.nm
    obtain ⟨i1, i2⟩ := kp_mk (m := nn (w 11)) ((of_wi h).put (i := 11) (v := w 11 + 1) (by omega) (by omega) (fun _ => rg_inc hn (m := 4) (by omega) (by omega))) (by omega) 6 (by omega)
    exact ⟨wi_of i1, fun k hk => (i2 k hk).trans (upd_ne _ _ (by omega))⟩
theorem kp_Recipe {w : Nat → Int32} {m e a b : Int32} (h : WInv w) : KpO w (oRecipe w m e a b) := by
  unfold oRecipe
  split
  · exact KpO.same h _ _
  · rename_i e0
    have e0 : (inb m 0 (w 11 - 1) && inb e 0 5) = true := by simpa using e0
    simp only [Bool.and_eq_true] at e0
    split
    · exact KpO.same h _ _
    · rename_i e1
      have e1 : (inb a 0 b && decide (b ≤ 9)) = true := by simpa using e1
      simp only [Bool.and_eq_true, decide_eq_true_eq, leI] at e1
      have h9 : (9 : Int32).toInt = 9 := rfl
      have ha := rg_inb e1.1
      have e00 : (0 : Int32).toInt = 0 := rfl
      unfold rg at ha
      obtain ⟨hm, -, hm4⟩ := h.inm e0.1
      have he := rg_inb e0.2
      have e5 : nn e < 6 := by
        obtain ⟨h1, h2⟩ := nn_of he (by decide)
        have := he.2
        have e55 : (5 : Int32).toInt = 5 := rfl
        omega
      refine ⟨wi_of (((of_wi h).put (by omega) (by omega) (fun _ => ?_)).put (by omega) (by omega) (fun _ => ?_)), fun k hk => ?_⟩
      · rw [rt_311_0 _ (by omega)]; unfold rg; exact ⟨by omega, by show _ ≤ (9 : Int); omega⟩
      · rw [rt_311_1 _ (by omega)]; unfold rg; exact ⟨by show (0 : Int) ≤ _; omega, by show _ ≤ (9 : Int); omega⟩
      · show upd (upd w _ _) _ _ k = w k
        rw [upd_ne _ _ (by omega), upd_ne _ _ (by omega)]
