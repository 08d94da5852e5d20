/-! THE LAW'S LOOP: its own rows -/
section LOOPR
variable {X : FX} {g : GT} {cL : ClassId} {ws : va_W} {A : Nat → Prop} {sk : Nat → Nat} {sb L : Nat} {sx : Nat → Int32} {nL kc ks : Nat} {Z : State → Prop} {pc : Nat} {lv : List (Nat × Value)} {st : List Value} {D : va_G} {tyl : List (ClassId × FieldType)} {b : ByteArray} {own : String} {h nc ns : Nat}
theorem n_iinc (C : CxN X D tyl A b nL own h nc ns) {k : Nat} {n : Int} {x : Int32} (v : Int32) (hd : decode b pc = .ok (.iinc k n, 3)) (hk : lv.lookup k = some (.int x)) (hv : Int32.ofInt n = v) (hn : k < nL) (hz : lv.all (fun q => !(q.1 + 1 == k) || q.2.category == 1) = true) (K : AtN X D ws A nL kc ks Z (pc + 3) ((k, .int (x + v)) :: lv) st) : AtN X D ws A nL kc ks Z pc lv st := by
  intro H locs ls hP hD hS hl
  obtain ⟨l, h1, h2⟩ := hl
  subst hv
  obtain ⟨j, hj⟩ := List.getElem?_of_mem (h2 k _ hk)
  exact lv_iinc C.1 C.2.1 hd h1 hj rfl hn rfl (fun ls' hl' => K H locs ls' hP hD hS ⟨_, hl', lvk.filt hz h2⟩)
theorem l_slen (C : CxL X g cL A sk sb L sx) (hd : decode code pc = .ok (.arraylength, 1)) (K : AtN X D ws A 7 kc ks Z (pc + 1) lv (.int (nI L) :: st)) : AtN X D ws A 7 kc ks Z pc lv (.ref sb :: st) := fun H locs ls hP hD hS hl =>
  va_slen C.1.1.1 C.1.1.2.1 C.2.1 C.2.2.1 C.2.2.2 hS hd (K H locs ls hP hD hS hl)
theorem n_perm {ws2 : va_W} (e : ws.Perm ws2) (K : AtN X D ws2 A nL kc ks Z pc lv st) : AtN X D ws A nL kc ks Z pc lv st := fun H locs ls hP hD hS hl =>
  K H locs ls (vp_iff.mpr (fun q hq => vp_iff.mp hP q (e.mem_iff.mpr hq))) (vd_iff.mpr ⟨(e.map Prod.fst).nodup_iff.mp (vd_iff.mp hD).1, fun q hq => (vd_iff.mp hD).2 q (e.mem_iff.mpr hq)⟩) hS hl
end LOOPR
/-- the tape's end moved -/
theorem JI.e {ext : List CD} {Mc Mm Mm2 : Mem} {x : Int32} (h : JI ext Mc Mm) (h0 : ¬ x < 0) (hx : x ≤ Mc 84 4) (s1 : Mm2 1 = Mm 1) (s2 : Mm2 2 = Mm 2) (s3 : Mm2 10 = Mm 10) (s4 : Mm2 0 3 = Mm 0 3) (s6 : Mm2 0 24 = Mm 0 24) (s5 : Mm2 0 19 = x) : JI ext (ms Mc 84 4 x) Mm2 := by
  obtain ⟨a1, a2, a3, ⟨n, a4, a5, a6⟩, a7, a8, a9, a10, a11, a12, a13, a14⟩ := h
  have f : ∀ c, c ≠ 84 → ms Mc 84 4 x c = Mc c := fun c hc => ms_off _ _ _ hc
  rw [a5, leI, nI_toI (by omega)] at hx
  rw [ltI] at h0
  have e0 : (0 : Int32).toInt = 0 := rfl
  obtain ⟨m, hm⟩ : ∃ m : Nat, x.toInt = m := ⟨x.toInt.toNat, by omega⟩
  have hxm : x = nI m := by rw [eqI, nI_toI (by omega)]; exact hm
  unfold JI
  rw [s1, s2, s3, s4, s5, s6, f 85 (by omega), f 0 (by omega), f 62 (by omega), f 31 (by omega)]
  refine ⟨a1.off (fun c h1 h2 => f c (by omega)), a2, ?_, ⟨m, by omega, by rw [ms_at, hxm], hxm⟩, a7, by rw [ms_ne _ _ _ (by omega)]; exact a8, a9, fun e => ?_, ?_, a12, a13, a14⟩
  · exact a3.ag ⟨fun _ _ => rfl, rfl, fun _ _ _ => rfl⟩ a2.nk.2 (fun c h1 h2 => f c (by omega))
  · obtain ⟨b1, b2, b3⟩ := a10 e
    exact ⟨b1.off (fun c h1 h2 => f c (by omega)), b2, b3.mv b2 (fun c h1 _ => f c (by omega)) (fun _ _ => rfl) (fun _ _ _ _ => rfl) rfl (fun _ _ h => h)⟩
  · exact a11.mv a2 (fun c h1 _ => f c (by omega)) (fun _ _ => rfl) (fun _ _ _ _ => rfl) rfl (fun _ _ h => h)
/-- twenty bytes more -/
theorem JI.f {ext : List CD} {Mc Mc2 Mm Mm2 : Mem} {n : Nat} {B : Nat → Int32} (h : JI ext Mc Mm) (hn : n + 20 ≤ 400) (hC : TkQ2 Mc n B 20 Mc2) (hM : FdQ2 Mm n B 20 Mm2) (h19 : Mm2 0 19 = nI (n + 20)) : JI ext Mc2 Mm2 := by
  obtain ⟨a1, a2, a3, -, a7, a8, a9, a10, a11, a12, a13, a14⟩ := h
  obtain ⟨t1, t2, t3, t4, t5⟩ := hC
  obtain ⟨s1, s2, s4, s6, s7, s8, s9⟩ := hM
  have f : ∀ c, c ≠ 84 → c ≠ 85 → Mc2 c = Mc c := t1
  have e85 : Mc2 85 = Mm2 10 := by
    funext k
    by_cases c : k < n ∨ n + 20 ≤ k
    · rw [t4 k c, s8 k c, a7]
    · obtain ⟨j, rfl⟩ : ∃ j, k = n + j := ⟨k - n, by omega⟩
      rw [t5 j (by omega), s9 j (by omega)]
  unfold JI
  rw [s1, s2, s4, s6, f 0 (by omega) (by omega), f 62 (by omega) (by omega), f 31 (by omega) (by omega)]
  refine ⟨a1.off (fun c h1 h2 => f c (by omega) (by omega)), a2, ?_, ⟨n + 20, hn, t3, h19⟩, e85, by rw [t2 8 (by omega)]; exact a8, a9, fun e => ?_, ?_, a12, a13, a14⟩
  · exact a3.ag ⟨fun _ _ => rfl, rfl, fun _ _ _ => rfl⟩ a2.nk.2 (fun c h1 h2 => f c (by omega) (by omega))
  · obtain ⟨b1, b2, b3⟩ := a10 e
    exact ⟨b1.off (fun c h1 h2 => f c (by omega) (by omega)), b2, b3.mv b2 (fun c h1 _ => f c (by omega) (by omega)) (fun _ _ => rfl) (fun _ _ _ _ => rfl) rfl (fun _ _ h => h)⟩
  · exact a11.mv a2 (fun c h1 _ => f c (by omega) (by omega)) (fun _ _ => rfl) (fun _ _ _ _ => rfl) rfl (fun _ _ h => h)
theorem Dk.ext {b : Nat} {M : Mem} {w w2 : Nat → Int32} (h : Dk b M w) (e : ∀ k, k < 359 → w2 k = w k) : Dk b M w2 := fun i hi => by rw [e i hi]; exact h i hi
/-- an image is kept -/
theorem JI.i {ext : List CD} {Mc Mc2 Mm Mm2 : Mem} (h : JI ext Mc Mm) (f : ∀ c, c ≠ 0 → (c < 32 ∨ 63 ≤ c) → Mc2 c = Mc c) (h7 : Mc2 0 7 = 1) (hD : Dk 32 Mc2 (Mm 1)) (h62 : ∀ k, k < 6 → Mc2 62 k = Mc 31 k) (s1 : Mm2 1 = Mm 1) (s2 : ∀ k, k < 5165 → Mm2 2 k = Mm 1 k) (s3 : Mm2 10 = Mm 10) (s4 : Mm2 0 3 = 1) (s5 : Mm2 0 19 = Mm 0 19) (s6 : Mm2 0 24 = Mm 0 24) : JI ext Mc2 Mm2 := by
  obtain ⟨a1, a2, a3, ⟨n, a4, a5, a6⟩, a7, a8, a9, a10, a11, a12, a13, a14⟩ := h
  have hn6 := a2.nc.2
  unfold JI
  rw [s1, s3, s4, s5, s6, h7, f 84 (by omega) (by omega), f 85 (by omega) (by omega), f 31 (by omega) (by omega)]
  refine ⟨a1.off (fun c h1 h2 => f c (by omega) (by omega)), a2, ?_, ⟨n, a4, a5, a6⟩, a7, a8, rfl, fun _ => ⟨hD.ext (fun k hk => s2 k (by omega)), a2.ext (fun k hk => s2 k (by omega)), ?_⟩, ?_, a12, a12.mv h62, a14⟩
  · exact a3.ag ⟨fun _ _ => rfl, rfl, fun _ _ _ => rfl⟩ a2.nk.2 (fun c h1 h2 => f c (by omega) (by omega))
  · exact a11.mv a2 (fun c h1 _ => f c (by omega) (by omega)) (fun i hi => h62 i (by omega)) (fun k _ _ hk => s2 k hk) (s2 10 (by omega)) (fun _ _ h => h)
  · exact a11.mv a2 (fun c h1 _ => f c (by omega) (by omega)) (fun _ _ => rfl) (fun _ _ _ _ => rfl) rfl (fun _ _ h => h)
/-- back to the image -/
theorem JI.b {ext : List CD} {Mc Mc2 Mm Mm2 : Mem} (h : JI ext Mc Mm) (h0 : ¬ Mc 0 7 = 0) (f : ∀ c, (c = 0 ∨ 32 ≤ c) → c ≠ 63 → Mc2 c = Mc c) (h12 : Mc2 63 12 = 0) (hD : Dk 1 Mc2 (Mm 2)) (h31 : ∀ k, k < 6 → Mc2 31 k = Mc 62 k) (s1 : ∀ k, k < 5165 → Mm2 1 k = Mm 2 k) (s2 : Mm2 2 = Mm 2) (s3 : Mm2 10 = Mm 10) (s4 : Mm2 0 3 = Mm 0 3) (s5 : Mm2 0 19 = Mm 0 19) (s6 : Mm2 0 24 = Mm 0 24) : JI ext Mc2 Mm2 := by
  obtain ⟨a1, a2, a3, ⟨n, a4, a5, a6⟩, a7, a8, a9, a10, a11, a12, a13, a14⟩ := h
  obtain ⟨b1, b2, b3⟩ := a10 h0
  have hn6 := b2.nc.2
  unfold JI
  rw [s2, s3, s4, s5, s6, f 84 (by omega) (by omega), f 85 (by omega) (by omega), f 0 (by omega) (by omega), f 62 (by omega) (by omega)]
  refine ⟨hD.ext (fun k hk => s1 k (by omega)), b2.ext (fun k hk => s1 k (by omega)), Or.inl h12, ⟨n, a4, a5, a6⟩, a7, a8, a9, fun _ => ⟨b1.off (fun c h1 h2 => f c (by omega) (by omega)), b2, ?_⟩, ?_, a13.mv h31, a13, a14⟩
  · exact b3.mv b2 (fun c h1 _ => f c (by omega) (by omega)) (fun _ _ => rfl) (fun _ _ _ _ => rfl) rfl (fun _ _ h => h)
  · exact b3.mv b2 (fun c h1 _ => f c (by omega) (by omega)) (fun i hi => h31 i (by omega)) (fun k _ _ hk => s1 k hk) (s1 10 (by omega)) (fun _ _ h => h)
