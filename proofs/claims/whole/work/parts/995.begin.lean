/-! WHAT HOLDS AT THE START -/
theorem vk_S.cg {N : Nat} {len : List Nat} {byt : List (List Int32)} {k v k2 v2 : Nat → Nat} {A : Nat → Prop} {U : State} {H : Heap} (h : vk_S N len byt k v A U H) (e1 : ∀ i, i < N → k2 i = k i) (e2 : ∀ i, i < N → v2 i = v i) : vk_S N len byt k2 v2 A U H := by
  refine ⟨fun i hi => ?_, fun i j hi hj e => h.2 i j hi hj (by rw [← e1 i hi, ← e1 j hj]; exact e)⟩
  rw [e1 i hi, e2 i hi]
  exact h.1 i hi
def pmF : List Cond := flatC (Jvm.Cond.and given_1 narrow_1)
theorem st_len : ∀ i : Nat, i < 10 → WL.getD i 0 < 2 ^ 31 := by decide +kernel
theorem st_R1 : ∀ i : Nat, i < 10 → Cond.exactly (.string RX6 (RI i)) "java/lang/String" ∈ pmF := by decide +kernel
theorem st_R2 : ∀ i : Nat, i < 10 → Cond.eq (.field (.string RX6 (RI i)) "java/lang/String" "coder" "B") (.int 0) ∈ pmF := by decide +kernel
theorem st_R3 : ∀ i : Nat, i < 10 → Cond.arrayOf (.field (.string RX6 (RI i)) "java/lang/String" "value" "[B") .byte ∈ pmF := by decide +kernel
theorem st_R4 : ∀ i : Nat, i < 10 → Cond.eq (.length (.field (.string RX6 (RI i)) "java/lang/String" "value" "[B")) (.int (Int32.ofNat (WL.getD i 0))) ∈ pmF := by decide +kernel
theorem st_R5 : ∀ i : Nat, i < 10 → ∀ j : Nat, j < WL.getD i 0 → Cond.eq (.elem (.field (.string RX6 (RI i)) "java/lang/String" "value" "[B") (.int (Int32.ofNat j))) (.int ((WB.getD i []).getD j 0)) ∈ pmF := by decide +kernel
def neF (R : String) (w : Cond) : Option (Nat × Nat) := match w with
  | .not (.eq (.string A a) (.string B b)) => if A = R ∧ B = R then some (a, b) else none
  | _ => none
theorem neF_ok {R : String} {w : Cond} {p : Nat × Nat} (h : neF R w = some p) : w = .not (.eq (.string R p.1) (.string R p.2)) := by
  unfold neF at h
  split at h
  · split at h
    · rename_i e
      cases h
      rw [e.1, e.2]
    · cases h
  · cases h
def neG (l : List (Nat × Nat)) (R : Nat → Nat) : Bool := (List.range 10).all (fun i => (List.range 10).all (fun j => i == j || l.contains (R i, R j) || l.contains (R j, R i)))
theorem neG_ok {F : List Cond} {R : String} {K : Nat → Nat} (h : neG (F.filterMap (neF R)) K = true) : ∀ i : Nat, i < 10 → ∀ j : Nat, j < 10 → i ≠ j → Cond.not (Cond.eq (.string R (K i)) (.string R (K j))) ∈ F ∨ Cond.not (Cond.eq (.string R (K j)) (.string R (K i))) ∈ F := by
  intro i hi j hj hne
  have h1 := List.all_eq_true.mp (List.all_eq_true.mp h i (List.mem_range.mpr hi)) j (List.mem_range.mpr hj)
  rw [Bool.or_eq_true, Bool.or_eq_true, beq_iff_eq] at h1
  have key : ∀ a b, (F.filterMap (neF R)).contains (a, b) = true → Cond.not (Cond.eq (.string R a) (.string R b)) ∈ F := by
    intro a b hc
    obtain ⟨w, hw, e⟩ := List.mem_filterMap.mp (List.contains_iff_mem.mp hc)
    rw [neF_ok e] at hw
    exact hw
  rcases h1 with (h1 | h1) | h1
  · exact absurd h1 hne
  · exact Or.inl (key _ _ h1)
  · exact Or.inr (key _ _ h1)
theorem st_R6 : ∀ i : Nat, i < 10 → ∀ j : Nat, j < 10 → i ≠ j → Cond.not (Cond.eq (.string RX6 (RI i)) (.string RX6 (RI j))) ∈ pmF ∨ Cond.not (Cond.eq (.string RX6 (RI j)) (.string RX6 (RI i))) ∈ pmF := neG_ok (by decide +kernel)
theorem st_R7 : ∀ i : Nat, i < 10 → Cond.stringRef RX6 (RI i) (WT i) ∈ lw_tbl := by decide +kernel
theorem st_M1 : ∀ i : Nat, i < 10 → Cond.exactly (.string RX12 (MI i)) "java/lang/String" ∈ pmF := by decide +kernel
theorem st_M2 : ∀ i : Nat, i < 10 → Cond.eq (.field (.string RX12 (MI i)) "java/lang/String" "coder" "B") (.int 0) ∈ pmF := by decide +kernel
theorem st_M3 : ∀ i : Nat, i < 10 → Cond.arrayOf (.field (.string RX12 (MI i)) "java/lang/String" "value" "[B") .byte ∈ pmF := by decide +kernel
theorem st_M4 : ∀ i : Nat, i < 10 → Cond.eq (.length (.field (.string RX12 (MI i)) "java/lang/String" "value" "[B")) (.int (Int32.ofNat (WL.getD i 0))) ∈ pmF := by decide +kernel
theorem st_M5 : ∀ i : Nat, i < 10 → ∀ j : Nat, j < WL.getD i 0 → Cond.eq (.elem (.field (.string RX12 (MI i)) "java/lang/String" "value" "[B") (.int (Int32.ofNat j))) (.int ((WB.getD i []).getD j 0)) ∈ pmF := by decide +kernel
theorem st_M6 : ∀ i : Nat, i < 10 → ∀ j : Nat, j < 10 → i ≠ j → Cond.not (Cond.eq (.string RX12 (MI i)) (.string RX12 (MI j))) ∈ pmF ∨ Cond.not (Cond.eq (.string RX12 (MI j)) (.string RX12 (MI i))) ∈ pmF := neG_ok (by decide +kernel)
theorem st_M7 : ∀ i : Nat, i < 10 → Cond.stringRef RX12 (MI i) (WT i) ∈ lw_tbl := by decide +kernel
theorem st_T {s : State} {b k : Nat} (hs : ∀ w ∈ pmF, w.before #[Value.ref b] s = true) (h : Cond.exactly (.string RX11 k) "java/lang/String" ∈ pmF) : ∃ a, (Term.string RX11 k).eval #[Value.ref b] s none [] s = some (.ref a) := by
  obtain ⟨a, c, cA, kA, q1, -⟩ := Cond.exactly_spec (args := #[Value.ref b]) (first := s) (o := none) (s := s) (idx := []) (t := .string RX11 k) (cls := "java/lang/String") (hs _ h)
  exact ⟨a, q1⟩
theorem st_TX {l : Launch} {s : State} {b : Nat} (hl : l.stackTraces = false) (hts : ∀ w ∈ lw_tbl, w.before #[Value.ref b] s = true) (hgv : (Jvm.Cond.and given_1 narrow_1).before #[Value.ref b] s = true) : ∃ sk, TX l sk (fun q => s.heap.size ≤ q) s s.heap := by
  have hs : ∀ w ∈ pmF, w.before #[Value.ref b] s = true := flat_of_before _ hgv
  have hA : ∀ a : Nat, a < s.heap.size → ¬ (fun q : Nat => s.heap.size ≤ q) a := fun a h h2 => Nat.not_le.mpr h h2
  obtain ⟨kR, vR, hR, eR⟩ := vk_Sof (args := #[Value.ref b]) (s := s) (N := 10) (tm := fun i => .string RX6 (RI i)) (len := WL) (byt := WB) (A := fun q => s.heap.size ≤ q) st_len (fun i hi => hs _ (st_R1 i hi)) (fun i hi => hs _ (st_R2 i hi)) (fun i hi => hs _ (st_R3 i hi)) (fun i hi => hs _ (st_R4 i hi)) (fun i hi j hj => hs _ (st_R5 i hi j hj)) (fun i j hi hj hne => (st_R6 i hi j hj hne).elim (fun h => Or.inl (hs _ h)) (fun h => Or.inr (hs _ h))) hA
  obtain ⟨kM, vM, hM, eM⟩ := vk_Sof (args := #[Value.ref b]) (s := s) (N := 10) (tm := fun i => .string RX12 (MI i)) (len := WL) (byt := WB) (A := fun q => s.heap.size ≤ q) st_len (fun i hi => hs _ (st_M1 i hi)) (fun i hi => hs _ (st_M2 i hi)) (fun i hi => hs _ (st_M3 i hi)) (fun i hi => hs _ (st_M4 i hi)) (fun i hi j hj => hs _ (st_M5 i hi j hj)) (fun i j hi hj hne => (st_M6 i hi j hj hne).elim (fun h => Or.inl (hs _ h)) (fun h => Or.inr (hs _ h))) hA
  obtain ⟨a0, e0⟩ := st_T (k := 430) hs (by decide +kernel)
  obtain ⟨a1, e1⟩ := st_T (k := 437) hs (by decide +kernel)
  obtain ⟨a2, e2⟩ := st_T (k := 442) hs (by decide +kernel)
  obtain ⟨a3, e3⟩ := st_T (k := 447) hs (by decide +kernel)
  refine ⟨fun k => if k < 10 then (if k = 0 then a0 else if k = 1 then a1 else if k = 2 then a2 else a3) else if k < 20 then kR (k - 10) else if k < 30 then vR (k - 20) else if k < 40 then kM (k - 30) else vM (k - 40), ?_⟩
  have g1 : ∀ i, i < 10 → (if 10 + i < 10 then (if 10 + i = 0 then a0 else if 10 + i = 1 then a1 else if 10 + i = 2 then a2 else a3) else if 10 + i < 20 then kR (10 + i - 10) else if 10 + i < 30 then vR (10 + i - 20) else if 10 + i < 40 then kM (10 + i - 30) else vM (10 + i - 40)) = kR i := fun i hi => by
    rw [if_neg (by omega), if_pos (by omega), Nat.add_sub_cancel_left]
  have g2 : ∀ i, i < 10 → (if 20 + i < 10 then (if 20 + i = 0 then a0 else if 20 + i = 1 then a1 else if 20 + i = 2 then a2 else a3) else if 20 + i < 20 then kR (20 + i - 10) else if 20 + i < 30 then vR (20 + i - 20) else if 20 + i < 40 then kM (20 + i - 30) else vM (20 + i - 40)) = vR i := fun i hi => by
    rw [if_neg (by omega), if_neg (by omega), if_pos (by omega), Nat.add_sub_cancel_left]
  have g3 : ∀ i, i < 10 → (if 30 + i < 10 then (if 30 + i = 0 then a0 else if 30 + i = 1 then a1 else if 30 + i = 2 then a2 else a3) else if 30 + i < 20 then kR (30 + i - 10) else if 30 + i < 30 then vR (30 + i - 20) else if 30 + i < 40 then kM (30 + i - 30) else vM (30 + i - 40)) = kM i := fun i hi => by
    rw [if_neg (by omega), if_neg (by omega), if_neg (by omega), if_pos (by omega), Nat.add_sub_cancel_left]
  have g4 : ∀ i, i < 10 → (if 40 + i < 10 then (if 40 + i = 0 then a0 else if 40 + i = 1 then a1 else if 40 + i = 2 then a2 else a3) else if 40 + i < 20 then kR (40 + i - 10) else if 40 + i < 30 then vR (40 + i - 20) else if 40 + i < 40 then kM (40 + i - 30) else vM (40 + i - 40)) = vM i := fun i hi => by
    rw [if_neg (by omega), if_neg (by omega), if_neg (by omega), if_neg (by omega), Nat.add_sub_cancel_left]
  refine ⟨hl, vx_Zqof (args := #[Value.ref b]) (hts _ (by decide +kernel)) (hts _ (by decide +kernel)) (hs _ (by decide +kernel)) hA, vx_Zqof (args := #[Value.ref b]) (hts _ (by decide +kernel)) (hts _ (by decide +kernel)) (hs _ (by decide +kernel)) hA, vk_R.of (hts _ (by decide +kernel)) e0, vk_R.of (hts _ (by decide +kernel)) e1, vk_R.of (hts _ (by decide +kernel)) e2, vk_R.of (hts _ (by decide +kernel)) e3, ?_⟩
  refine ⟨va_Zof (args := #[Value.ref b]) (hts _ (by decide +kernel)) (hts _ (by decide +kernel)) (va_eqt (hs (.eq (.static "java/lang/String" "COMPACT_STRINGS" "Z") (.int 1)) (by decide +kernel))) hA, va_Zqof (args := #[Value.ref b]) (hts _ (by decide +kernel)) (hts _ (by decide +kernel)) (hs _ (by decide +kernel)) hA, hR.cg g1 g2, hM.cg g3 g4, fun i hi => ?_, fun i hi => ?_⟩
  · refine vk_R.of (hts _ (st_R7 i hi)) ?_
    show _ = some (Value.ref (if 10 + i < 10 then (if 10 + i = 0 then a0 else if 10 + i = 1 then a1 else if 10 + i = 2 then a2 else a3) else if 10 + i < 20 then kR (10 + i - 10) else if 10 + i < 30 then vR (10 + i - 20) else if 10 + i < 40 then kM (10 + i - 30) else vM (10 + i - 40)))
    rw [g1 i hi]
    exact eR i hi
  · refine vk_R.of (hts _ (st_M7 i hi)) ?_
    show _ = some (Value.ref (if 30 + i < 10 then (if 30 + i = 0 then a0 else if 30 + i = 1 then a1 else if 30 + i = 2 then a2 else a3) else if 30 + i < 20 then kR (30 + i - 10) else if 30 + i < 30 then vR (30 + i - 20) else if 30 + i < 40 then kM (30 + i - 30) else vM (30 + i - 40)))
    rw [g3 i hi]
    exact eM i hi
theorem st_NW {s : State} {b : Nat} (hts : ∀ w ∈ lw_tbl, w.before #[Value.ref b] s = true) : NW s := by
  intro w hw
  obtain ⟨h1, h2⟩ := List.mem_filter.mp hw
  have h3 := hts w h1
  cases w <;> first | (simp at h2; done) | exact va_Nw.of rfl h3
theorem st_arr {s : State} {b : Nat} {ty : FieldType} (h : (Cond.arrayClass ty).before #[Value.ref b] s = true) (hy : ∀ C, ty ≠ .object C) : ∃ cA, ArrOfT s cA ty ∧ va_RA s cA ty := by
  obtain ⟨c, k, comp, h1, h2, h3⟩ := Cond.arrayClass_spec (args := #[Value.ref b]) (first := s) (s := s) (o := none) (idx := []) h
  refine ⟨c, fun n z => ⟨fun k h => (by cases h), k, h2, comp, h3⟩, ?_⟩
  cases ty <;> first | exact h1 | exact absurd rfl (hy _)
theorem st_arrq {s : State} {C : String} (h : va_AO C s) : ∃ cA, ArrOfT s cA (.object C) ∧ va_RA s cA (.object C) := by
  obtain ⟨comp, c, k, h1, h2, h3, h4, h5⟩ := Cond.arrayOver_spec (args := #[]) (first := s) (s := s) (o := none) (idx := []) h
  exact ⟨c, fun n z => ⟨fun k h => (by cases h), k, h3, comp, h4⟩, k, comp, h3, h4, h1, h5⟩
