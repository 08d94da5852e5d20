/-! R.CLAIM: THE WORLD GROWS BY A CLAIM AND ITS CODE -/
theorem me_claim : MeV yX11_claim cX11_claim 3 (some .int) 0 := ⟨⟨gw 105 (by decide +kernel) (by decide +kernel), gw 1468 (by decide +kernel) (by decide +kernel), by decide +kernel, by decide⟩, gw 1466 (by decide +kernel) (by decide +kernel), gw 1467 (by decide +kernel) (by decide +kernel)⟩
def T_claimL : List (Nat × Instr × Nat) := [(0, .aload_n 0, 1), (1, .getfield 56, 3), (4, .invokevirtual 378, 3), (7, .istore_n 1, 1), (8, .aload_n 0, 1), (9, .getfield 56, 3), (12, .iconst 0, 1), (13, .putfield 60, 3), (16, .iload_n 1, 1), (17, .invokestatic 72, 3), (20, .aload_n 0, 1), (21, .getfield 10, 3), (24, .getfield 382, 3), (27, .bipush 6, 2), (29, .if_icmp .ge 7, 3), (32, .iconst 1, 1), (33, .goto 4, 3), (36, .iconst 0, 1), (37, .invokestatic 104, 3), (40, .aload_n 0, 1), (41, .getfield 10, 3), (44, .getfield 382, 3), (47, .istore_n 2, 1), (48, .aload_n 0, 1), (49, .getfield 10, 3), (52, .getfield 385, 3), (55, .iload_n 2, 1), (56, .new 389, 3), (59, .dup, 1), (60, .aload_n 0, 1), (61, .getfield 56, 3), (64, .getfield 391, 3), (67, .aload_n 0, 1), (68, .getfield 56, 3), (71, .getfield 394, 3), (74, .invokespecial 395, 3), (77, .aastore, 1), (78, .aload_n 0, 1), (79, .getfield 10, 3), (82, .iload_n 2, 1), (83, .iconst 1, 1), (84, .iadd, 1), (85, .putfield 382, 3), (88, .iload_n 2, 1), (89, .ireturn, 1)]
theorem T_claim : tabOK cX11_claim T_claimL = true := by decide +kernel
theorem me_readText : MeV yX6_readText cX6_readText 1 (some .boolean) 0 := ⟨⟨gw 115 (by decide +kernel) (by decide +kernel), gw 1472 (by decide +kernel) (by decide +kernel), by decide +kernel, by decide⟩, gw 1470 (by decide +kernel) (by decide +kernel), gw 1471 (by decide +kernel) (by decide +kernel)⟩
theorem lk_readText : Cond.methodLink RX11 378 yX6_readText ∈ GW := gw 1469 (by decide +kernel) (by decide +kernel)
theorem lk_newclm : Cond.methodLink RX11 395 yX1_init ∈ GW := gw 1609 (by decide +kernel) (by decide +kernel)
theorem lk_clsclm : Cond.classLink RX11 389 RX1 ∈ GW := gw 1607 (by decide +kernel) (by decide +kernel)
theorem in_clm : Cond.instantiable RX1 1 ∈ GW := gw 1608 (by decide +kernel) (by decide +kernel)
theorem ii_clm : Cond.initialized RX1 ∈ GW := gw 131 (by decide +kernel) (by decide +kernel)
theorem lv_clm {l : Launch} {g : GT} {ws : va_W} {src h0 : Nat} {f : Nat → Int32} {k : Int32} {kn N : Nat} (q0 : Nat) (he : ws[q0]? = some (src, .inl (g.2.2.1 0, N, .inl f))) (hk : k = nI kn) (hkN : kn ≤ N) (hN : N ≤ 400) :
    LV l g yX1_init cX1_init 3 3 1 400 (ws ++ [(h0, .inr (1, [.null]))]) [.ref h0, .ref src, .int k] (fun u : (Nat → Int32) × Nat => ∀ j, j < kn → u.1 j = f j) (fun u => ws ++ [(h0, .inr (1, [.ref u.2])), (u.2, .inl (g.2.2.1 0, kn, .inl u.1))]) := by
  have hlt : q0 < ws.length := (List.getElem?_eq_some_iff.mp he).1
  have he2 : (ws ++ [(h0, (.inr (1, [.null]) : va_E))])[q0]? = some (src, .inl (g.2.2.1 0, N, .inl f)) := by rw [List.getElem?_append_left hlt]; exact he
  refine lv_of2 (by decide) rfl (Nat.le_of_ble_eq_true rfl) ?_
  rintro X A Z rfl C hm RT
  refine n_aload_n C (tk T_clm 0 rfl) rfl ?_
  refine n_objInit C lk_clm_obj oi_in oi_cd (by decide) (by decide) (tk T_clm 1 rfl) ?_
  refine n_aload_n C (tk T_clm 2 rfl) rfl ?_
  refine n_aload_n C (tk T_clm 3 rfl) rfl ?_
  refine n_iload_n C (tk T_clm 4 rfl) rfl ?_
  refine n_callLR C [.ref src, .int k] me_copy lk_clm_cp (cc_copy q0 he2 hk hkN hN) (by decide) rfl rfl (Nat.le_of_ble_eq_true rfl) (by decide) (by decide) (tk T_clm 5 rfl) (fun u a hu => ?_)
  have h3 : ((ws ++ [(h0, (.inr (1, [.null]) : va_E))]) ++ [(a, (.inl (g.2.2.1 0, kn, .inl u) : va_E))])[ws.length]? = some (h0, .inr (1, [.null])) := by
    rw [List.append_assoc, List.getElem?_append_right (Nat.le_refl _), Nat.sub_self]; rfl
  refine n_putF C hm (v := .ref a) f_RX1_15 tyX1_ok nmX1 rfl rfl (tyX1_ok 0 (by decide)) rfl rfl ws.length h3 (Nat.le_of_ble_eq_true rfl) (tk T_clm 6 rfl) ?_
  refine n_ws (ws2 := ws ++ [(h0, .inr (1, [.ref a])), (a, .inl (g.2.2.1 0, kn, .inl u))]) (by rw [List.append_assoc, List.set_append_right _ _ (Nat.le_refl _), Nat.sub_self]; rfl) ?_
  exact RT (u, a) _ _ (tk T_clm 7 rfl) hu
abbrev gA (g : GT) (a : Nat → Nat) : GT := (g.1, g.2.1, g.2.2.1, a)
def nC (ext : List CD) : Nat := 89 + ext.length
def exN (ext : List CD) (kn : Nat) : List CD := ext ++ [(4, 1, [some (nC ext + 1)]), (0, kn, [])]
def meN (M : Mem) (ext : List CD) (u : Nat → Int32) : Mem := fun k => if k = nC ext + 1 then u else M k
def adN (g : GT) (ext : List CD) (q q2 : Nat) : Nat → Nat := fun k => if k = nC ext then q else if k = nC ext + 1 then q2 else ad g k
def LyOK (ext : List CD) : Prop := ∀ k d, (layC ++ ext)[k]? = some d → (∀ j, some j ∈ d.2.2 → j < nC ext) ∧ (d.1 = 3 → (k = 31 ∨ k = 62) ∧ d.2.1 = 6)
theorem nC_len {ext : List CD} : (layC ++ ext).length = nC ext := by rw [List.length_append]; rfl
theorem arrV_congr {c : ClassId} {n : Nat} {F G : Nat → Value} (h : ∀ i, i < n → F i = G i) : arrV c n F = arrV c n G := by
  have hs : (arrV c n F).slots = (arrV c n G).slots := by
    apply Array.ext_getElem?
    intro i
    by_cases hi : i < n
    · rw [arrV_read _ _ hi, arrV_read _ _ hi, h i hi]
    · rw [Array.getElem?_eq_none (by rw [arrV_size]; omega), Array.getElem?_eq_none (by rw [arrV_size]; omega)]
  have e : ∀ K : Nat → Value, arrV c n K = { cls := c, slots := (arrV c n K).slots, vm := .none } := fun _ => rfl
  rw [e F, e G, hs]
theorem flds_congr {g g2 : GT} : ∀ (l : List (Option Nat)) (m : Nat → Int32) (i : Nat), (∀ j, some j ∈ l → ad g2 j = ad g j) → flds g2 l m i = flds g l m i
  | [], _, _, _ => rfl
  | some j :: l, m, i, h => by
    show Value.ref (ad g2 j) :: flds g2 l m (i + 1) = Value.ref (ad g j) :: flds g l m (i + 1)
    rw [h j List.mem_cons_self, flds_congr l m (i + 1) (fun j hj => h j (List.mem_cons_of_mem _ hj))]
  | none :: l, m, i, h => by
    show Value.int (m i) :: flds g2 l m (i + 1) = Value.int (m i) :: flds g l m (i + 1)
    rw [flds_congr l m (i + 1) (fun j hj => h j (List.mem_cons_of_mem _ hj))]
theorem ent_at {D : va_G} {g g2 : GT} {d : CD} {m : Nat → Int32} {a : Nat} {H : Heap} (hc : g2.2.2.1 = g.2.2.1) (hf : ∀ j, some j ∈ d.2.2 → ad g2 j = ad g j) (h3 : d.1 = 3 → ∀ i, i < d.2.1 → cref g2 (m i) = cref g (m i)) (h : va_at D vwCl (a, ent g d m) H) : va_at D vwCl (a, ent g2 d m) H := by
  obtain ⟨k, n, l⟩ := d
  match k, hf, h3, h with
  | 0, _, _, h => unfold ent at h ⊢; rw [hc]; exact h
  | 1, _, _, h => unfold ent at h ⊢; rw [hc]; exact h
  | 2, _, _, h => unfold ent at h ⊢; rw [hc]; exact h
  | 3, _, h3, h =>
    have h' : H[a]? = some (arrV (g.2.2.1 3) n (fun j => va_rf (cref g (m j)))) := h
    show H[a]? = some (arrV (g2.2.2.1 3) n (fun j => va_rf (cref g2 (m j))))
    rw [h', hc, arrV_congr (F := fun j => va_rf (cref g (m j))) (G := fun j => va_rf (cref g2 (m j))) (fun i hi => by show va_rf _ = va_rf _; rw [h3 rfl i hi])]
  | k + 4, hf, _, h =>
    have h' : va_at D vwCl (a, .inr (n, flds g l m 0)) H := h
    show va_at D vwCl (a, .inr (n, flds g2 l m 0)) H
    rw [flds_congr l m 0 hf]
    exact h'
/-- the grown world, as a world of the grown layout -/
theorem wl_grow {g : GT} {ext : List CD} {M : Mem} {q q2 kn : Nat} {u : Nat → Int32} {H : Heap} (hL : LyOK ext) (h31 : CkR ext (M 31)) (h62 : CkR ext (M 62)) (hP : va_P (g.1, g.2.1) vwCl (wl g (layC ++ ext) M ++ [(q, .inr (1, [.ref q2])), (q2, .inl (g.2.2.1 0, kn, .inl u))]) H) : wP (gA g (adN g ext q q2)) (layC ++ exN ext kn) (meN M ext u) H := by
  have hlen : (wl g (layC ++ ext) M).length = nC ext := by unfold wl; rw [List.length_mapIdx, nC_len]
  intro k x hx
  obtain ⟨d, hd, rfl⟩ := wl_some hx
  unfold exN at hd
  rw [← List.append_assoc] at hd
  by_cases hk : k < nC ext
  · rw [List.getElem?_append_left (by rw [nC_len]; exact hk)] at hd
    have e1 : meN M ext u k = M k := by unfold meN; rw [if_neg (by omega)]
    have e2 : ∀ j, j < nC ext → adN g ext q q2 j = ad g j := fun j hj => by unfold adN; rw [if_neg (by omega), if_neg (by omega)]
    have h1 := hP k (ad g k, ent g d (M k)) (by rw [List.getElem?_append_left (by rw [hlen]; exact hk)]; exact wl_get hd)
    rw [e1]
    show va_at _ vwCl (adN g ext q q2 k, _) H
    rw [e2 k hk]
    refine ent_at (g := g) (g2 := gA g (adN g ext q q2)) rfl (fun j hj => e2 j ((hL k d hd).1 j hj)) (fun h3 i hi => ?_) h1
    obtain ⟨hkk, h6⟩ := (hL k d hd).2 h3
    have hr : CkR ext (M k) := by rcases hkk with rfl | rfl <;> assumption
    rcases hr i (by omega) with h0 | ⟨fl, h9⟩
    · unfold cref; rw [if_pos h0, if_pos h0]
    · have hlt : (M k i).toNatClampNeg < nC ext := by rw [← nC_len]; exact (List.getElem?_eq_some_iff.mp h9).1
      unfold cref
      split
      · rfl
      · show some (adN g ext q q2 _) = _
        rw [e2 _ hlt]
  · have hk2 : k = nC ext ∨ k = nC ext + 1 := by
      have := (List.getElem?_eq_some_iff.mp hd).1
      rw [List.length_append, nC_len] at this
      simp at this
      omega
    rcases hk2 with rfl | rfl
    · rw [List.getElem?_append_right (by rw [nC_len]; exact Nat.le_refl _), nC_len, Nat.sub_self] at hd
      obtain rfl : (4, 1, [some (nC ext + 1)]) = d := Option.some.inj hd
      have h1 := hP (nC ext) (q, .inr (1, [.ref q2])) (by rw [List.getElem?_append_right (by rw [hlen]; exact Nat.le_refl _), hlen, Nat.sub_self]; rfl)
      have e3 : adN g ext q q2 (nC ext) = q := by unfold adN; rw [if_pos rfl]
      have e4 : adN g ext q q2 (nC ext + 1) = q2 := by unfold adN; rw [if_neg (by omega), if_pos rfl]
      show va_at _ vwCl (adN g ext q q2 (nC ext), .inr (1, [.ref (adN g ext q q2 (nC ext + 1))])) H
      rw [e3, e4]
      exact h1
    · rw [List.getElem?_append_right (by rw [nC_len]; omega), nC_len, show nC ext + 1 - nC ext = 1 by omega] at hd
      obtain rfl : (0, kn, []) = d := Option.some.inj hd
      have h1 := hP (nC ext + 1) (q2, .inl (g.2.2.1 0, kn, .inl u)) (by rw [List.getElem?_append_right (by rw [hlen]; omega), hlen, show nC ext + 1 - nC ext = 1 by omega]; rfl)
      have e4 : adN g ext q q2 (nC ext + 1) = q2 := by unfold adN; rw [if_neg (by omega), if_pos rfl]
      have e5 : meN M ext u (nC ext + 1) = u := by unfold meN; rw [if_pos rfl]
      show va_at _ vwCl (adN g ext q q2 (nC ext + 1), .inl (g.2.2.1 0, kn, .inl (meN M ext u (nC ext + 1)))) H
      rw [e4, e5]
      exact h1
theorem wl_growA {g : GT} {ext : List CD} {M M2 : Mem} {q q2 kn : Nat} {e1 e2 : va_E} : (wl (gA g (adN g ext q q2)) (layC ++ exN ext kn) M2).map Prod.fst = (wl g (layC ++ ext) M ++ [(q, e1), (q2, e2)]).map Prod.fst := by
  have hlen : (wl g (layC ++ ext) M).length = nC ext := by unfold wl; rw [List.length_mapIdx, nC_len]
  apply List.ext_getElem?
  intro k
  rw [List.getElem?_map, List.getElem?_map]
  unfold exN
  rw [← List.append_assoc]
  by_cases hk : k < nC ext
  · have hk2 : k < (layC ++ ext).length := by rw [nC_len]; exact hk
    have h1 := List.getElem?_eq_getElem hk2
    rw [wl_get (g := gA g (adN g ext q q2)) (M := M2) (by rw [List.getElem?_append_left hk2]; exact h1), List.getElem?_append_left (by rw [hlen]; exact hk), wl_get h1]
    show some (adN g ext q q2 k) = some (ad g k)
    unfold adN
    rw [if_neg (by omega), if_neg (by omega)]
  · by_cases hk1 : k = nC ext
    · subst hk1
      rw [wl_get (g := gA g (adN g ext q q2)) (M := M2) (d := (4, 1, [some (nC ext + 1)])) (by rw [List.getElem?_append_right (by rw [nC_len]; exact Nat.le_refl _), nC_len, Nat.sub_self]; rfl), List.getElem?_append_right (by rw [hlen]; exact Nat.le_refl _), hlen, Nat.sub_self]
      show some (adN g ext q q2 (nC ext)) = some q
      unfold adN
      rw [if_pos rfl]
    · by_cases hk2 : k = nC ext + 1
      · subst hk2
        rw [wl_get (g := gA g (adN g ext q q2)) (M := M2) (d := (0, kn, [])) (by rw [List.getElem?_append_right (by rw [nC_len]; omega), nC_len, show nC ext + 1 - nC ext = 1 by omega]; rfl), List.getElem?_append_right (by rw [hlen]; omega), hlen, show nC ext + 1 - nC ext = 1 by omega]
        show some (adN g ext q q2 (nC ext + 1)) = some q2
        unfold adN
        rw [if_neg (by omega), if_pos rfl]
      · have l1 : (wl (gA g (adN g ext q q2)) (layC ++ ext ++ [(4, 1, [some (nC ext + 1)]), (0, kn, [])]) M2).length = nC ext + 2 := by unfold wl; rw [List.length_mapIdx, List.length_append, nC_len]; rfl
        rw [List.getElem?_eq_none (by rw [l1]; omega), List.getElem?_eq_none (by rw [List.length_append, hlen]; show nC ext + 2 ≤ k; omega)]

/-- R.claim's contract -/
def XK (l : Launch) (g : GT) (ext : List CD) (sk : Nat → Nat) (M : Mem) (post : Int32 → (Nat → Nat) → List CD → Mem → Prop) (ex : String → Mem → Prop) : Prop :=
  ∀ sz, vx_Met l yX11_claim (.code yX11_claim cX11_claim 3 (some .int) :: GW) (rmX 60 80) (va_Pc [.ref (ad g 0)] (fun U => U.heap.size = sz ∧ PW g (layC ++ ext) M U ∧ TX l sk (frW g (layC ++ ext) M sz) U U.heap ∧ va_AO RX1 U))
    (va_Qi (fun r (u : (Nat → Nat) × List CD × Mem) => post r u.1 u.2.1 u.2.2) (fun u t => wP (gA g u.1) (layC ++ u.2.1) u.2.2 t.heap ∧ va_D (frW g (layC ++ ext) M sz) (wl (gA g u.1) (layC ++ u.2.1) u.2.2)) (frW g (layC ++ ext) M sz)) (XCf g (layC ++ ext) ex (frW g (layC ++ ext) M sz)) 80 (6 * 80) (frW g (layC ++ ext) M sz)
def P_R_claim (g : GT) (ext : List CD) (post : Int32 → (Nat → Nat) → List CD → Mem → Prop) (ex : String → Mem → Prop) (M : Mem) : Prop :=
  P_Reader_readText (fun r M1 => P_R_wantNumber (fun M3 => P_R_wantRoom (fun M4 => ∃ kn, kn ≤ 400 ∧ M4 84 7 = nI kn ∧ vp_in (M4 1 8) 6 ∧ CkR ext (M4 31) ∧ CkR ext (M4 62) ∧ ∀ q q2 u, (∀ j, j < kn → u j = M4 88 j) → post (M4 1 8) (adN g ext q q2) (exN ext kn) (ms (ms (meN M4 ext u) 31 (M4 1 8).toNatClampNeg (nI (nC ext))) 1 8 (M4 1 8 + 1))) ex (if 6 ≤ M3 1 8 then 0 else 1) M3) ex r (ms M1 84 4 0)) M
theorem x_ofN {X : FX} {g : GT} {lay : List CD} {A : Nat → Prop} {b : ByteArray} {nL kc ks h : Nat} {own : String} {Z : State → Prop} {pc : Nat} {lv : List (Nat × Value)} {st : List Value} {M : Mem} (C : Cx X g lay A b nL own h) (K : AtN X (g.1, g.2.1) (wl g lay M) A nL kc ks Z pc lv st) : AtX X g lay A nL kc ks Z pc lv st M := fun H locs ls hP hS hl => K H locs ls hP (C.2.2.2.2.2.2.2.1.D M) hS hl
/-- from the grown list to the grown layout -/
theorem x_grow {X : FX} {g : GT} {ext : List CD} {A : Nat → Prop} {b : ByteArray} {nL kc ks h nc ns : Nat} {own : String} {Z : State → Prop} {pc : Nat} {lv : List (Nat × Value)} {st : List Value} {M : Mem} {q q2 kn : Nat} {u : Nat → Int32} (C : CxN X (g.1, g.2.1) (tys g) A b nL own h nc ns) (hL : LyOK ext) (h31 : CkR ext (M 31)) (h62 : CkR ext (M 62))
    (K : Cx X (gA g (adN g ext q q2)) (layC ++ exN ext kn) A b nL own h → AtX X (gA g (adN g ext q q2)) (layC ++ exN ext kn) A nL kc ks Z pc lv st (meN M ext u)) : AtN X (g.1, g.2.1) (wl g (layC ++ ext) M ++ [(q, .inr (1, [.ref q2])), (q2, .inl (g.2.2.1 0, kn, .inl u))]) A nL kc ks Z pc lv st := by
  intro H locs ls hP hD hS hl
  have hP2 := wl_grow hL h31 h62 hP
  have hD2 : va_D A (wl (gA g (adN g ext q q2)) (layC ++ exN ext kn) (meN M ext u)) := by
    rw [vd_iff] at hD ⊢
    refine ⟨by rw [wl_growA (M := M)]; exact hD.1, fun x hx => ?_⟩
    have h1 : x.1 ∈ (wl (gA g (adN g ext q q2)) (layC ++ exN ext kn) (meN M ext u)).map Prod.fst := List.mem_map.mpr ⟨x, hx, rfl⟩
    rw [wl_growA (M := M) (e1 := .inr (1, [.ref q2])) (e2 := .inl (g.2.2.1 0, kn, .inl u))] at h1
    obtain ⟨y, hy, e⟩ := List.mem_map.mp h1
    rw [← e]
    exact hD.2 y hy
  obtain ⟨c1, c2, c3, c4, c5, c6, c7, c8, c9, c10, c11, c12, c13⟩ := C
  exact K ⟨c1, c2, c3, c4, c5, c6, c7, AdOK.of hD2 (fun k hk => hD2.2 k _ (wl_get (List.getElem?_eq_getElem hk))), c8, c9, c10⟩ H locs ls hP2 hS hl
def RetK (X : FX) (g : GT) (A : Nat → Prop) (Z : State → Prop) (post : Int32 → (Nat → Nat) → List CD → Mem → Prop) : Prop :=
  ∀ (v : Int32) (a : Nat → Nat) (ext : List CD) (M : Mem) (pc : Nat) (lv : List (Nat × Value)), decode cX11_claim pc = .ok (.ireturn, 1) → post v a ext M → va_D A (wl (gA g a) (layC ++ ext) M) → AtX X (gA g a) (layC ++ ext) A 3 80 (6 * 80) Z pc lv [.int v] M
set_option maxHeartbeats 1000000 in
theorem xk_of {l : Launch} {g : GT} {ext : List CD} {sk : Nat → Nat} {M : Mem} {post : Int32 → (Nat → Nat) → List CD → Mem → Prop} {ex : String → Mem → Prop}
    (body : ∀ (X : FX) (A : Nat → Prop) (Z : State → Prop), X.2.1 = l → CxX X g (layC ++ ext) A cX11_claim 3 RX11 60 80 sk → CxN X (g.1, g.2.1) (tys g) A cX11_claim 3 RX11 60 80 (6 * 80) → RetK X g A Z post → ThX X g (layC ++ ext) A 80 Z ex → AtX X g (layC ++ ext) A 3 0 0 Z 0 (lv_args 0 [.ref (ad g 0)]) [] M) : XK l g ext sk M post ex := by
  intro sz
  refine vx_ofW (cc := cX11_claim) (maxL := 3) (ret := (some .int)) (by decide +kernel) rfl ?_
  intro p e s m args below meth c s₁ B hml hno hv
  obtain ⟨rfl, hsz, ⟨hP, hK, hN, hD⟩, hTX, hO⟩ := hv
  subst hsz
  have hx := B.exec
  have hb := B.bytes
  have hr := B.returns
  have hts := atoms_spec (ws := .code yX11_claim cX11_claim 3 (some .int) :: GW) B.pre
  have hown : s.vm.findClass RX11 = some m.cls := findClass_of_methodNamed B.named
  have hlocks := B.notSynchronized
  have hAin : ∀ k, k < (layC ++ ext).length → va_A (wl g (layC ++ ext) M) s.heap.size (ad g k) := fun k hk => Or.inl ⟨k, _, wl_get (M := M) (List.getElem?_eq_getElem hk)⟩
  generalize hAe : frW g (layC ++ ext) M s.heap.size = A at hTX ⊢
  have hin : ∀ k, k < (layC ++ ext).length → A (ad g k) := fun k hk => by
    rw [← hAe]
    exact hAin k hk
  have hA : ∀ q : Nat, s.heap.size ≤ q → A q := fun q h => by rw [← hAe]; exact Or.inr h
  have hAd : AdOK g (layC ++ ext).length A := AdOK.of hD hin
  have hl := lv_entry [.ref (ad g 0)] (n := 3) (Nat.le_of_ble_eq_true rfl)
  rw [lg_entry_eq]
  generalize (lg_sl [.ref (ad g 0)] ++ List.replicate (3 - (lg_sl [.ref (ad g 0)]).length) Slot.unset).toArray = ls at hl ⊢
  refine body (p, l, e, _, s, m, _, below, meth, c) A _ rfl ⟨⟨hx, hb, hml, hown, fun w hw => hts w (List.mem_cons_of_mem _ hw), hK, hN, hAd, hA, Nat.le_refl _, Nat.le_refl _⟩, hTX, Nat.le_refl _, Nat.le_refl _⟩ ⟨hx, hb, hml, hown, fun w hw => hts w (List.mem_cons_of_mem _ hw), hK, hN, hA, Nat.le_refl _, Nat.le_refl _, Nat.le_refl _, Nat.le_refl _, hO⟩ ?_ ?_ s.heap [] ls hP va_S.rf ⟨_, hl, fun i v hi => lookup_in _ hi⟩
  · intro v a ext1 M1 pc lv hd hpost hD1 H locs ls2 hP1 hS1 hl1
    exact vx_ret (W.iret (v := v) hx hb hr (fun t ht hW => ⟨⟨v, (a, ext1, M1), rfl, hpost, by show wP (gA g a) (layC ++ ext1) M1 t.heap ∧ _; rw [ht]; exact ⟨hP1, hD1⟩⟩, hS1.F ht⟩) hS1.2.2 hd)
  · intro E M1 H locs ls2 rest pc q ce kc ks hk1 hk2 hex hP1 hS1 hq hv hc
    exact vx_out (fun x hx => (hno x hx).elim) hlocks hq hv hc (fun t ht hvm => ⟨M1, trivial, ⟨hex, by show wP g (layC ++ ext) M1 t.heap; rw [ht]; exact hP1⟩, hS1.F ht⟩) hS1.2.2 hk1 hk2
theorem wl_gA0 {g : GT} {lay : List CD} {M : Mem} : wl (gA g (ad g)) lay M = wl g lay M := rfl
set_option maxHeartbeats 1000000 in
theorem ct_R_claim {l : Launch} {g : GT} {ext : List CD} {sk : Nat → Nat} {M : Mem} {post : Int32 → (Nat → Nat) → List CD → Mem → Prop} {ex : String → Mem → Prop} (hL : LyOK ext) (hlen : nC ext < 1000000) (h : P_R_claim g ext post ex M) : XK l g ext sk M post ex := by
  refine xk_of ?_
  rintro X A Z rfl C CN RT hT
  refine a_aload_n C.1 (tk T_claim 0 rfl) rfl ?_
  refine a_getR C.1 f_RX11_56 (tk T_claim 1 rfl) lc0 rfl ?_
  refine s_callI C [] me_readText lk_readText (ct_Reader_readText h) (by decide) lc84 rfl rfl rfl (Nat.le_of_ble_eq_true rfl) (tk T_claim 2 rfl) ⟨Nat.zero_le _, Nat.zero_le _⟩ (fun r M1 h => ?_)
  refine a_istore_n C.1 (tk T_claim 3 rfl) (by decide) rfl ?_
  refine a_aload_n C.1 (tk T_claim 4 rfl) rfl ?_
  refine a_getR C.1 f_RX11_56 (tk T_claim 5 rfl) lc0 rfl ?_
  refine a_iconst C.1 (0 : Int32) (tk T_claim 6 rfl) kI_0 ?_
  refine a_put C.1 f_RX11_60 f_RX11_60p rfl rfl (tk T_claim 7 rfl) lc84 rfl ?_
  refine a_iload_n C.1 (tk T_claim 8 rfl) rfl ?_
  refine x_statV C hT [.int r] me_yX11_wantNumber lk_RX11_72 (ct_R_wantNumber h) (by decide) rfl rfl (Nat.le_of_ble_eq_true rfl) (tk T_claim 9 rfl) (by decide) (fun M3 h => ?_)
  refine a_aload_n C.1 (tk T_claim 10 rfl) rfl ?_
  refine a_getR C.1 f_RX11_10 (tk T_claim 11 rfl) lc0 rfl ?_
  refine a_getI C.1 f_RX11_382 (tk T_claim 12 rfl) lc1 rfl ?_
  refine a_bipush C.1 (6 : Int32) (tk T_claim 13 rfl) kB_6 ?_
  have rest : ∀ x : Int32, P_R_wantRoom (fun M4 => ∃ kn, kn ≤ 400 ∧ M4 84 7 = nI kn ∧ vp_in (M4 1 8) 6 ∧ CkR ext (M4 31) ∧ CkR ext (M4 62) ∧ ∀ q q2 u, (∀ j, j < kn → u j = M4 88 j) → post (M4 1 8) (adN g ext q q2) (exN ext kn) (ms (ms (meN M4 ext u) 31 (M4 1 8).toNatClampNeg (nI (nC ext))) 1 8 (M4 1 8 + 1))) ex x M3 → AtX X g (layC ++ ext) A 3 (0 + 1) (0 + 6 * 1) Z 37 [(1, .int r), (0, .ref (ad g 0))] [.int x] M3 := by
    intro x h
    refine x_statV C hT [.int x] me_yX11_wantRoom lk_RX11_104 (ct_R_wantRoom h) (by decide) rfl rfl (Nat.le_of_ble_eq_true rfl) (tk T_claim 18 rfl) (by decide) (fun M4 h => ?_)
    obtain ⟨kn, hkn, hsize, hvi, h31, h62, hpost⟩ := h
    refine a_aload_n C.1 (tk T_claim 19 rfl) rfl ?_
    refine a_getR C.1 f_RX11_10 (tk T_claim 20 rfl) lc0 rfl ?_
    refine a_getI C.1 f_RX11_382 (tk T_claim 21 rfl) lc1 rfl ?_
    refine a_istore_n C.1 (tk T_claim 22 rfl) (by decide) rfl ?_
    refine a_aload_n C.1 (tk T_claim 23 rfl) rfl ?_
    refine a_getR C.1 f_RX11_10 (tk T_claim 24 rfl) lc0 rfl ?_
    refine a_getR C.1 f_RX11_385 (tk T_claim 25 rfl) lc1 rfl ?_
    refine a_iload_n C.1 (tk T_claim 26 rfl) rfl ?_
    refine x_ofN C.1 ?_
    have hfs : ∀ j, j < 1 → defaultValue (tyX1 j) = vp_V [.null] j := fun j hj => by
      obtain rfl : j = 0 := by omega
      rfl
    refine n_new CN (N := 1) (ci := 1) (fs := [.null]) tyX1 tyX1_ok wsX1_in lk_clsclm in_clm ii_clm rfl hfs (by decide) (by decide) (tk T_claim 27 rfl) (fun q => ?_)
    refine n_dupr CN (tk T_claim 28 rfl) ?_
    have hlt : ∀ k, k < 89 → k < (wl g (layC ++ ext) M4).length := fun k hk => by unfold wl; rw [List.length_mapIdx, nC_len]; unfold nC; omega
    refine n_aload_n CN (tk T_claim 29 rfl) rfl ?_
    refine n_get CN f_RX11_56 0 (by rw [List.getElem?_append_left (hlt 0 (by decide))]; exact wl_get lc0) rfl (tk T_claim 30 rfl) ?_
    refine n_get CN f_RX11_391 84 (by rw [List.getElem?_append_left (hlt 84 (by decide))]; exact wl_get lc84) rfl (tk T_claim 31 rfl) ?_
    refine n_aload_n CN (tk T_claim 32 rfl) rfl ?_
    refine n_get CN f_RX11_56 0 (by rw [List.getElem?_append_left (hlt 0 (by decide))]; exact wl_get lc0) rfl (tk T_claim 33 rfl) ?_
    refine n_get CN f_RX11_394 84 (by rw [List.getElem?_append_left (hlt 84 (by decide))]; exact wl_get lc84) rfl (tk T_claim 34 rfl) ?_
    refine n_callLV CN [.ref (ad g 88), .int (M4 84 7)] me_clm mi_clm rfl lk_newclm (lv_clm (ws := wl g (layC ++ ext) M4) (f := M4 88) (N := 400) 88 (wl_get lc88) hsize hkn (Nat.le_refl _)) (by decide) rfl rfl (Nat.le_of_ble_eq_true rfl) (by decide) (by decide) (tk T_claim 35 rfl) (fun u hu => ?_)
    obtain ⟨u, q2⟩ := u
    refine x_grow CN hL h31 h62 (fun C2 => ?_)
    have hn89 : 89 ≤ nC ext := Nat.le_add_right _ _
    have hcl : (nI (nC ext)).toNatClampNeg = nC ext := nI_clamp (by omega)
    have hne : ¬ nI (nC ext) = 0 := fun e => by rw [e] at hcl; have : (0 : Int32).toNatClampNeg = 0 := by decide
                                                omega
    have ead : ∀ k, k < 89 → ad g k = ad (gA g (adN g ext q q2)) k := fun k hk => by show _ = adN g ext q q2 k; unfold adN; rw [if_neg (by omega), if_neg (by omega)]
    have eq : Value.ref q = va_rf (cref (gA g (adN g ext q q2)) (nI (nC ext))) := by
      unfold cref
      rw [if_neg hne, hcl]
      show Value.ref q = Value.ref (adN g ext q q2 (nC ext))
      unfold adN
      rw [if_pos rfl]
    have hlay : (layC ++ exN ext kn)[(nI (nC ext)).toNatClampNeg]? = some (4, 1, [some (nC ext + 1)]) := by
      rw [hcl]
      unfold exN
      rw [← List.append_assoc, List.getElem?_append_right (by rw [nC_len]; exact Nat.le_refl _), nC_len, Nat.sub_self]
      rfl
    have K : AtX X (gA g (adN g ext q q2)) (layC ++ exN ext kn) A 3 (0 + 1 + 1 + 1 + 1) (0 + 6 * 1 + 6 * 1 + 1 + 400) Z 77 [(2, .int (M4 1 8)), (1, .int r), (0, .ref (ad (gA g (adN g ext q q2)) 0))] [va_rf (cref (gA g (adN g ext q q2)) (nI (nC ext))), .int (M4 1 8), .ref (ad (gA g (adN g ext q q2)) 31)] (meN M4 ext u) := by
      refine a_aast C2 (tk T_claim 36 rfl) lc31 hvi (Or.inr ⟨_, hlay⟩) ?_
      refine a_aload_n C2 (tk T_claim 37 rfl) rfl ?_
      refine a_getR C2 f_RX11_10 (tk T_claim 38 rfl) lc0 rfl ?_
      refine a_iload_n C2 (tk T_claim 39 rfl) rfl ?_
      refine a_iconst C2 (1 : Int32) (tk T_claim 40 rfl) kI_1 ?_
      refine a_iadd C2 (tk T_claim 41 rfl) ?_
      refine a_put C2 f_RX11_382 f_RX11_382p rfl rfl (tk T_claim 42 rfl) lc1 rfl ?_
      refine a_iload_n C2 (tk T_claim 43 rfl) rfl ?_
      exact x_widen (by decide) (by decide) (RT _ _ _ _ _ _ (tk T_claim 44 rfl) (hpost q q2 u hu) (C2.2.2.2.2.2.2.2.1.D _))
    rw [← eq, ← ead 0 (by decide), ← ead 31 (by decide)] at K
    exact K
  refine a_icmp_ge C.1 36 (tk T_claim 14 rfl) rfl (fun c => ?_) (fun c => ?_)
  · refine a_iconst C.1 (0 : Int32) (tk T_claim 17 rfl) kI_0 ?_
    exact rest 0 (by have h9 : P_R_wantRoom _ ex (if 6 ≤ M3 1 8 then 0 else 1) M3 := h
                     rw [if_pos c] at h9; exact h9)
  · refine a_iconst C.1 (1 : Int32) (tk T_claim 15 rfl) kI_1 ?_
    refine a_goto C.1 37 (tk T_claim 16 rfl) rfl ?_
    exact rest 1 (by have h9 : P_R_wantRoom _ ex (if 6 ≤ M3 1 8 then 0 else 1) M3 := h
                     rw [if_neg c] at h9; exact h9)

