/-! sheets -/
def lck (a f z form i : Int32) : Int32 := if a = 0 then 1 else if f = form then (if 0 ≤ i ∧ i ≤ z - 1 then 0 else 2) else 3
def cut (f x : Int32) : Int32 := if f = 0 then x.toInt8.toInt32 else if f = 1 then x.toInt16.toInt32 else x
def vlck (v : vs_T) (s : Nat) (form i : Int32) : Int32 := lck (v 7 s) (v 8 s) (v 9 s) form i
def gFind (v : vs_T) (k : Int32) : vs_T := am_up v 0 8 k
def gBegin (v : vs_T) (s : Nat) (y z : Int32) : vs_T := fun c => if c = 10 then (fun i => if 60 * s ≤ i ∧ i < 60 * s + 60 then 0 else v 10 i) else am_up (am_up (am_up v 7 s 1) 8 s y) 9 s z c
def gSheet (v : vs_T) (x y z : Int32) : vs_T := if 0 ≤ x ∧ x ≤ 3 then (if 0 ≤ y ∧ y ≤ 2 then (if z ≤ 60 then (if z < 0 then gFind v 5 else gBegin v (cN x) y z) else v) else v) else v
def qSheet (v : vs_T) (x y z : Int32) : Int32 := if 0 ≤ x ∧ x ≤ 3 then (if 0 ≤ y ∧ y ≤ 2 then (if z ≤ 60 then (if z < 0 then -15 else z) else -2) else -2) else -2
def gLose (v : vs_T) (x : Int32) : vs_T := if 0 ≤ x ∧ x ≤ 3 then (if v 7 (cN x) = 0 then gFind v 1 else am_up v 7 (cN x) 0) else v
def qLose (v : vs_T) (x : Int32) : Int32 := if 0 ≤ x ∧ x ≤ 3 then (if v 7 (cN x) = 0 then -11 else v 9 (cN x)) else -2
def gPut (v : vs_T) (x y z u : Int32) : vs_T := if 0 ≤ x ∧ x ≤ 3 then (if 0 ≤ y ∧ y ≤ 2 then (if vlck v (cN x) y z = 0 then am_up v 10 (60 * cN x + cN z) (cut (v 8 (cN x)) u) else gFind v (vlck v (cN x) y z)) else v) else v
def qPut (v : vs_T) (x y z _u : Int32) : Int32 := if 0 ≤ x ∧ x ≤ 3 then (if 0 ≤ y ∧ y ≤ 2 then (if vlck v (cN x) y z = 0 then 1 else -10 - vlck v (cN x) y z) else -2) else -2
def gGet (v : vs_T) (x y z : Int32) : vs_T := if 0 ≤ x ∧ x ≤ 3 then (if 0 ≤ y ∧ y ≤ 2 then (if vlck v (cN x) y z = 0 then v else gFind v (vlck v (cN x) y z)) else v) else v
def qGet (v : vs_T) (x y z : Int32) : Int32 := if 0 ≤ x ∧ x ≤ 3 then (if 0 ≤ y ∧ y ≤ 2 then (if vlck v (cN x) y z = 0 then v 10 (60 * cN x + cN z) else -2147483648) else -2147483648) else -2147483648
theorem lck_0 {a f z form i : Int32} {n : Nat} (hz : z = nI n) (hn : n ≤ 60) (h : lck a f z form i = 0) : ∃ j, j < n ∧ i = nI j := by
  unfold lck at h
  split at h
  · exact absurd h (by decide)
  · split at h
    · split at h
      · rename_i q
        subst hz
        obtain ⟨j, hj, ej⟩ := nI_of (Int32.not_lt.mpr q.1)
        refine ⟨j, ?_, ej⟩
        by_cases h0 : n = 0
        · have q2 := Int32.le_trans q.1 q.2
          rw [h0] at q2
          exact absurd q2 (by decide)
        · have q2 := q.2
          rw [nI_sub1 (by omega), ej, nI_leI hj (by omega)] at q2
          omega
      · exact absurd h (by decide)
    · exact absurd h (by decide)
theorem lck_r (a f z form i : Int32) : lck a f z form i = 0 ∨ lck a f z form i = 1 ∨ lck a f z form i = 2 ∨ lck a f z form i = 3 := by
  unfold lck
  split
  · simp
  · split
    · split <;> simp
    · simp
def spM_lacks3 : am_Sp := fun as D L K => match as with
  | [.ref 49, .int x, .int y, .int z] => ∃ s : Nat, x = nI s ∧ s < 4 ∧ K (some (.int (lck (D 74 s) (D 75 s) (D 76 s) y z))) D L
  | _ => False
theorem moM_lacks3 : am_mono spM_lacks3 := by
  intro as D L K K' hK h
  unfold spM_lacks3 at h ⊢
  split at h
  · obtain ⟨z0, z1, z2, hz⟩ := h
    exact ⟨z0, z1, z2, hK _ _ _ hz⟩
  · exact h
def spM_keep : am_Sp := fun as D L K => match as with
  | [.ref 49, .int x, .int y, .int z] => ∃ s i : Nat, x = nI s ∧ s < 4 ∧ y = nI i ∧ i < 60 ∧ K none (am_up D 77 (60 * s + i) (cut (D 75 s) z)) L
  | _ => False
theorem moM_keep : am_mono spM_keep := by
  intro as D L K K' hK h
  unfold spM_keep at h ⊢
  split at h
  · obtain ⟨z0, z1, z2, z3, z4, z5, hz⟩ := h
    exact ⟨z0, z1, z2, z3, z4, z5, hK _ _ _ hz⟩
  · exact h
def fnM_lacks3 : Nat → am_Sp := fun a => match a with
  | 0 => spM_in
  | _ => am_no
theorem mfM_lacks3 : ∀ a, am_mono (fnM_lacks3 a) := fun a => match a with
  | 0 => moM_in
  | _ + 1 => am_no_mono
theorem wpM_lacks3 : ∀ (as : List Value) (D : am_D) (L : am_L) (K : am_K), spM_lacks3 as D L K → am_fit 4 as = true ∧ am_Wp false 0 cdM_lacks3 fnM_lacks3 K 0 (am_lo 4 as) [] D L := by
  intro as D L K h
  unfold spM_lacks3 at h
  split at h
  · rename_i x y z
    obtain ⟨s, ex, hs, hK⟩ := h
    subst ex
    have i4 : vp_in (nI s) 4 := vp_in_nI (by omega) (by decide)
    have cs : (nI s).toNatClampNeg = s := nI_clamp (by omega)
    unfold lck at hK
    refine ⟨rfl, am_Wp_bl mfM_lacks3 [] 60 _ _ _ _ _ ?_⟩
    (repeat ((conv => whnf); (first | refine zo0 ?_ | refine zo1 ?_ | refine br_z ?_ | refine br_o ?_ | refine br_zn ?_ | refine br_on ?_ | refine nz2 ?_ | refine nz6 ?_ | refine nz32 ?_ | refine And.intro (by assumption) ?_))); (conv => whnf)
    rw [cs]
    refine ⟨fun h1 => ?_, fun h1 => ?_⟩
    · rw [if_neg h1] at hK
      (repeat ((conv => whnf); (first | refine zo0 ?_ | refine zo1 ?_ | refine br_z ?_ | refine br_o ?_ | refine br_zn ?_ | refine br_on ?_ | refine nz2 ?_ | refine nz6 ?_ | refine nz32 ?_ | refine And.intro (by assumption) ?_))); (conv => whnf)
      rw [cs]
      refine ⟨fun h2 => ?_, fun h2 => ?_⟩
      · rw [if_pos h2] at hK
        (repeat ((conv => whnf); (first | refine zo0 ?_ | refine zo1 ?_ | refine br_z ?_ | refine br_o ?_ | refine br_zn ?_ | refine br_on ?_ | refine nz2 ?_ | refine nz6 ?_ | refine nz32 ?_ | refine And.intro (by assumption) ?_))); (conv => whnf)
        rw [cs]
        refine ⟨fun h3 => ?_, fun h3 => ?_⟩
        · rw [if_pos h3] at hK
          (repeat ((conv => whnf); (first | refine zo0 ?_ | refine zo1 ?_ | refine br_z ?_ | refine br_o ?_ | refine br_zn ?_ | refine br_on ?_ | refine nz2 ?_ | refine nz6 ?_ | refine nz32 ?_ | refine And.intro (by assumption) ?_))); (conv => whnf)
          exact hK
        · rw [if_neg h3] at hK
          (repeat ((conv => whnf); (first | refine zo0 ?_ | refine zo1 ?_ | refine br_z ?_ | refine br_o ?_ | refine br_zn ?_ | refine br_on ?_ | refine nz2 ?_ | refine nz6 ?_ | refine nz32 ?_ | refine And.intro (by assumption) ?_))); (conv => whnf)
          exact hK
      · rw [if_neg h2] at hK
        (repeat ((conv => whnf); (first | refine zo0 ?_ | refine zo1 ?_ | refine br_z ?_ | refine br_o ?_ | refine br_zn ?_ | refine br_on ?_ | refine nz2 ?_ | refine nz6 ?_ | refine nz32 ?_ | refine And.intro (by assumption) ?_))); (conv => whnf)
        exact hK
    · rw [if_pos h1] at hK
      (repeat ((conv => whnf); (first | refine zo0 ?_ | refine zo1 ?_ | refine br_z ?_ | refine br_o ?_ | refine br_zn ?_ | refine br_on ?_ | refine nz2 ?_ | refine nz6 ?_ | refine nz32 ?_ | refine And.intro (by assumption) ?_))); (conv => whnf)
      exact hK
  · exact absurd h id
theorem clM_lacks3 (l : Launch) : ∀ (a : Nat) (ins : Instr) (b dd : Nat), csM_lacks3[a]? = some (ins, b, dd) → am_Call l yM_lacks3.cls 1 ins b dd (fnM_lacks3 a) := by
  intro a ins b dd h
  match a, h with
  | 0, h => cases h; exact am_callS (okM_in l) wcM_in (am_m5 (i := 29) rfl rfl) wtM_in inM (by decide +kernel) (by decide) (by decide)
  | k + 1, h => simp [csM_lacks3] at h
theorem okM_lacks3 (l : Launch) : am_Ok l yM_lacks3 prog_13_method_86_code 4 (some .int) 1 spM_lacks3 := am_ok_of (by decide +kernel) flM_ok kiM_ok klM_ok ckM_lacks3 (clM_lacks3 l) wpM_lacks3
def fnM_keep : Nat → am_Sp := fun _ => am_no
theorem mfM_keep : ∀ a, am_mono (fnM_keep a) := fun _ => am_no_mono
theorem wpM_keep : ∀ (as : List Value) (D : am_D) (L : am_L) (K : am_K), spM_keep as D L K → am_fit 4 as = true ∧ am_Wp false 0 cdM_keep fnM_keep K 0 (am_lo 4 as) [] D L := by
  intro as D L K h
  unfold spM_keep at h
  split at h
  · rename_i x y z
    obtain ⟨s, i, ex, hs, ey, hi, hK⟩ := h
    subst ex
    subst ey
    have i4 : vp_in (nI s) 4 := vp_in_nI (by omega) (by decide)
    have cs : (nI s).toNatClampNeg = s := nI_clamp (by omega)
    have e60 : (60 : Int32) * nI s + nI i = nI (60 * s + i) := by rw [show (60 : Int32) = nI 60 by decide +kernel, pk_mul, nI_add]
    have i240 : vp_in (60 * nI s + nI i) 240 := by rw [e60]; exact vp_in_nI (by omega) (by decide)
    have c240 : (60 * nI s + nI i).toNatClampNeg = 60 * s + i := by rw [e60]; exact nI_clamp (by omega)
    unfold cut at hK
    refine ⟨rfl, am_Wp_bl mfM_keep [] 60 _ _ _ _ _ ?_⟩
    (repeat ((conv => whnf); (first | refine zo0 ?_ | refine zo1 ?_ | refine br_z ?_ | refine br_o ?_ | refine br_zn ?_ | refine br_on ?_ | refine nz2 ?_ | refine nz6 ?_ | refine nz32 ?_ | refine And.intro (by assumption) ?_))); (conv => whnf)
    rw [cs]
    refine ⟨fun h1 => ?_, fun h1 => ?_⟩
    · rw [if_neg h1] at hK
      (repeat ((conv => whnf); (first | refine zo0 ?_ | refine zo1 ?_ | refine br_z ?_ | refine br_o ?_ | refine br_zn ?_ | refine br_on ?_ | refine nz2 ?_ | refine nz6 ?_ | refine nz32 ?_ | refine And.intro (by assumption) ?_))); (conv => whnf)
      rw [cs]
      refine ⟨fun h2 => ?_, fun h2 => ?_⟩
      · rw [if_neg h2] at hK
        (repeat ((conv => whnf); (first | refine zo0 ?_ | refine zo1 ?_ | refine br_z ?_ | refine br_o ?_ | refine br_zn ?_ | refine br_on ?_ | refine nz2 ?_ | refine nz6 ?_ | refine nz32 ?_ | refine And.intro (by assumption) ?_))); (conv => whnf)
        rw [c240]
        exact hK
      · rw [if_pos h2] at hK
        (repeat ((conv => whnf); (first | refine zo0 ?_ | refine zo1 ?_ | refine br_z ?_ | refine br_o ?_ | refine br_zn ?_ | refine br_on ?_ | refine nz2 ?_ | refine nz6 ?_ | refine nz32 ?_ | refine And.intro (by assumption) ?_))); (conv => whnf)
        rw [c240]
        exact hK
    · rw [if_pos h1] at hK
      (repeat ((conv => whnf); (first | refine zo0 ?_ | refine zo1 ?_ | refine br_z ?_ | refine br_o ?_ | refine br_zn ?_ | refine br_on ?_ | refine nz2 ?_ | refine nz6 ?_ | refine nz32 ?_ | refine And.intro (by assumption) ?_))); (conv => whnf)
      rw [c240]
      exact hK
  · exact absurd h id
theorem clM_keep (l : Launch) : ∀ (a : Nat) (ins : Instr) (b dd : Nat), csM_keep[a]? = some (ins, b, dd) → am_Call l yM_keep.cls 0 ins b dd (fnM_keep a) := by
  intro a ins b dd h
  match a, h with
  | k + 0, h => simp [csM_keep] at h
theorem okM_keep (l : Launch) : am_Ok l yM_keep prog_13_method_87_code 4 none 0 spM_keep := am_ok_of (by decide +kernel) flM_ok kiM_ok klM_ok ckM_keep (clM_keep l) wpM_keep
