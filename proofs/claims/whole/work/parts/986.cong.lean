/-! exB sees lo and hi below the number of readings alone -/
theorem inB_c {lo hi lo2 hi2 : Nat → Int32} {r : Nat} (h : lo r = lo2 r ∧ hi r = hi2 r) (v : Int32) : inB lo hi r v = inB lo2 hi2 r v := by unfold inB spB; rw [h.1, h.2]
theorem exB_c {w lo hi lo2 hi2 : Nat → Int32} {p : Nat} {set speed : Int32} (h : ∀ r, r < nn (w 9) → lo r = lo2 r ∧ hi r = hi2 r) : exB w lo hi p set speed = exB w lo2 hi2 p set speed := by
  have h1 : lfA w lo hi (nI p) set speed = lfA w lo2 hi2 (nI p) set speed := by
    unfold lfA
    refine bitF_congr (fun r hr => ?_)
    have hi : ∀ v, inB lo hi r v = inB lo2 hi2 r v := inB_c (h r hr)
    unfold lfB lnS lnI lnE
    simp only [hi]
  have h2 : ∀ p v, seA w lo hi p v = seA w lo2 hi2 p v := fun p v => by
    unfold seA
    exact anyB_congr (fun r hr => by unfold seB; rw [inB_c (h r hr)])
  have h3 : miS w lo hi p set speed = miS w lo2 hi2 p set speed := by
    unfold miS miE miB
    simp only [h2]
  unfold exB
  rw [h1, h3]
