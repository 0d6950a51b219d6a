set_option maxHeartbeats 4000000 in
theorem lw_loop (n : Nat) (hn : n ≤ 3072) : ∀ (f i : Nat) (v : vs_T) (D : am_D) (L : am_L), i ≤ 3072 → n < i + 6 * f → vok v → ix D v → im D v → am_Wp true n cdL_law fnL_law lw_K 18 [some (.ref 79), some (.ref 0), some (.ref 49), some (.int (nI i))] [] D L := by
  intro f
  induction f with
  | zero =>
    intro i v D L hi hf hv hx hm
    refine am_Wp_bl mfL_law [18] 30 _ _ _ _ _ ?_
    (repeat ((conv => whnf); (first | refine zo0 ?_ | refine zo1 ?_ | refine br_z ?_ | refine br_o ?_ | refine br_zn ?_ | refine br_on ?_ | refine nz2 ?_ | refine nz6 ?_ | refine nz32 ?_ | refine And.intro (by assumption) ?_))); (conv => whnf)
    refine ⟨fun h1 => ?_, fun h1 => absurd ((lw_end hn (by omega)).mpr (by omega)) h1⟩
    (repeat ((conv => whnf); (first | refine zo0 ?_ | refine zo1 ?_ | refine br_z ?_ | refine br_o ?_ | refine br_zn ?_ | refine br_on ?_ | refine nz2 ?_ | refine nz6 ?_ | refine nz32 ?_ | refine And.intro (by assumption) ?_))); (conv => whnf)
  | succ f ih =>
    intro i v D L hi hf hv hx hm
    refine am_Wp_bl mfL_law [18, 192, 225, 248, 271, 294, 327, 350, 383, 426, 439, 462, 495, 538, 561, 584, 597, 610, 633, 656, 679, 702, 735, 748, 761, 784, 807, 820, 864, 907, 950, 973, 1026, 1069, 1132, 1165, 1188] 30 _ _ _ _ _ ?_
    (repeat ((conv => whnf); (first | refine zo0 ?_ | refine zo1 ?_ | refine br_z ?_ | refine br_o ?_ | refine br_zn ?_ | refine br_on ?_ | refine nz2 ?_ | refine nz6 ?_ | refine nz32 ?_ | refine And.intro (by assumption) ?_))); (conv => whnf)
    refine ⟨fun h1 => ?_, fun h1 => ?_⟩
    · (repeat ((conv => whnf); (first | refine zo0 ?_ | refine zo1 ?_ | refine br_z ?_ | refine br_o ?_ | refine br_zn ?_ | refine br_on ?_ | refine nz2 ?_ | refine nz6 ?_ | refine nz32 ?_ | refine And.intro (by assumption) ?_))); (conv => whnf)
    have h6 : i + 6 ≤ n := by
      apply Decidable.byContradiction
      intro q
      exact h1 ((lw_end hn (by omega)).mpr (by omega))
    have n6 : nI i + 6 = nI (i + 6) := by rw [show (6 : Int32) = nI 6 by decide +kernel, nI_add]
    have i0 : vp_in (nI i) n := vp_in_nI (by omega) (by omega)
    have nxt : ∀ (v : vs_T) (D : am_D) (L : am_L), vok v → ix D v → im D v → am_Wp true n cdL_law fnL_law lw_K 18 [some (.ref 79), some (.ref 0), some (.ref 49), some (.int (nI (i + 6)))] [] D L := fun v D L a b c => ih (i + 6) v D L (by omega) (by omega) a b c
    (repeat ((conv => whnf); (first | refine zo0 ?_ | refine zo1 ?_ | refine br_z ?_ | refine br_o ?_ | refine br_zn ?_ | refine br_on ?_ | refine nz2 ?_ | refine nz6 ?_ | refine nz32 ?_ | refine And.intro (by assumption) ?_))); (conv => whnf)
    refine ⟨fun j off h1 h2 => ?_, fun h2 => ?_⟩
    rotate_left
    · (repeat ((conv => whnf); (first | refine zo0 ?_ | refine zo1 ?_ | refine br_z ?_ | refine br_o ?_ | refine br_zn ?_ | refine br_on ?_ | refine nz2 ?_ | refine nz6 ?_ | refine nz32 ?_ | refine And.intro (by assumption) ?_))); (conv => whnf)
      rw [n6]
      exact nxt v D L hv hx hm
    match j, h1 with
    | 0, h1 =>
      cases h1
      exact lw_c0 hn h6 hv hx hm nxt
    | 1, h1 =>
      cases h1
      exact lw_c1 hn h6 hv hx hm nxt
    | 2, h1 =>
      cases h1
      exact lw_c2 hn h6 hv hx hm nxt
    | 3, h1 =>
      cases h1
      exact lw_c3 hn h6 hv hx hm nxt
    | 4, h1 =>
      cases h1
      exact lw_c4 hn h6 hv hx hm nxt
    | 5, h1 =>
      cases h1
      exact lw_c5 hn h6 hv hx hm nxt
    | 6, h1 =>
      cases h1
      exact lw_c6 hn h6 hv hx hm nxt
    | 7, h1 =>
      cases h1
      exact lw_c7 hn h6 hv hx hm nxt
    | 8, h1 =>
      cases h1
      exact lw_c8 hn h6 hv hx hm nxt
    | 9, h1 =>
      cases h1
      exact lw_c9 hn h6 hv hx hm nxt
    | 10, h1 =>
      cases h1
      exact lw_c10 hn h6 hv hx hm nxt
    | 11, h1 =>
      cases h1
      exact lw_c11 hn h6 hv hx hm nxt
    | 12, h1 =>
      cases h1
      exact lw_c12 hn h6 hv hx hm nxt
    | 13, h1 =>
      cases h1
      exact lw_c13 hn h6 hv hx hm nxt
    | 14, h1 =>
      cases h1
      exact lw_c14 hn h6 hv hx hm nxt
    | 15, h1 =>
      cases h1
      exact lw_c15 hn h6 hv hx hm nxt
    | 16, h1 =>
      cases h1
      exact lw_c16 hn h6 hv hx hm nxt
    | 17, h1 =>
      cases h1
      exact lw_c17 hn h6 hv hx hm nxt
    | 18, h1 =>
      cases h1
      exact lw_c18 hn h6 hv hx hm nxt
    | 19, h1 =>
      cases h1
      exact lw_c19 hn h6 hv hx hm nxt
    | 20, h1 =>
      cases h1
      exact lw_c20 hn h6 hv hx hm nxt
    | 21, h1 =>
      cases h1
      exact lw_c21 hn h6 hv hx hm nxt
    | 22, h1 =>
      cases h1
      exact lw_c22 hn h6 hv hx hm nxt
    | 23, h1 =>
      cases h1
      exact lw_c23 hn h6 hv hx hm nxt
    | 24, h1 =>
      cases h1
      exact lw_c24 hn h6 hv hx hm nxt
    | 25, h1 =>
      cases h1
      exact lw_c25 hn h6 hv hx hm nxt
    | 26, h1 =>
      cases h1
      exact lw_c26 hn h6 hv hx hm nxt
    | 27, h1 =>
      cases h1
      exact lw_c27 hn h6 hv hx hm nxt
    | 28, h1 =>
      cases h1
      exact lw_c28 hn h6 hv hx hm nxt
    | 29, h1 =>
      cases h1
      exact lw_c29 hn h6 hv hx hm nxt
    | 30, h1 =>
      cases h1
      exact lw_c30 hn h6 hv hx hm nxt
    | 31, h1 =>
      cases h1
      exact lw_c31 hn h6 hv hx hm nxt
    | 32, h1 =>
      cases h1
      exact lw_c32 hn h6 hv hx hm nxt
    | 33, h1 =>
      cases h1
      exact lw_c33 hn h6 hv hx hm nxt
    | 34, h1 =>
      cases h1
      exact lw_c34 hn h6 hv hx hm nxt
    | 35, h1 =>
      cases h1
      exact lw_c35 hn h6 hv hx hm nxt
    | j + 36, h1 => cases h1
