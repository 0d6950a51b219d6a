def fnM_write : Nat → am_Sp := fun a => match a with
  | 0 => spM_isTwo
  | 1 => spM_isSheet
  | 2 => spM_meets
  | 3 => spM_runsTold
  | 4 => spM_keep
  | _ => am_no
theorem mfM_write : ∀ a, am_mono (fnM_write a) := fun a => match a with
  | 0 => moM_isTwo
  | 1 => moM_isSheet
  | 2 => moM_meets
  | 3 => moM_runsTold
  | 4 => moM_keep
  | _ + 5 => am_no_mono
def spM_write : am_Sp := fun as D L K => match as with
  | [.ref 49, .int x, .int y] => ∃ v : vs_T, vok v ∧ im D v ∧ ∀ D', fo D D' → im D' (gWrite v x y) → K (some (.int (qWrite v x y))) D' L
  | _ => False
theorem moM_write : am_mono spM_write := by
  intro as D L K K' hK h
  unfold spM_write at h ⊢
  split at h
  · obtain ⟨z0, z1, z2, hz⟩ := h
    exact ⟨z0, z1, z2, fun D' q1 q2 => hK _ _ _ (hz D' q1 q2)⟩
  · exact h
theorem wpM_write : ∀ (as : List Value) (D : am_D) (L : am_L) (K : am_K), spM_write as D L K → am_fit 4 as = true ∧ am_Wp false 0 cdM_write fnM_write K 0 (am_lo 4 as) [] D L := by
  intro as D L K h
  unfold spM_write at h
  split at h
  · rename_i x y
    obtain ⟨v, hv, hi, hK⟩ := h
    refine ⟨rfl, am_Wp_bl mfM_write [38] 60 _ _ _ _ _ ?_⟩
    (repeat ((conv => whnf); (first | refine zo0 ?_ | refine zo1 ?_ | refine br_z ?_ | refine br_o ?_ | refine br_zn ?_ | refine br_on ?_ | refine nz2 ?_ | refine nz6 ?_ | refine nz32 ?_ | refine And.intro (by assumption) ?_))); (conv => whnf)
    refine ⟨fun hx => ?_, fun hx => ?_⟩
    · (repeat ((conv => whnf); (first | refine zo0 ?_ | refine zo1 ?_ | refine br_z ?_ | refine br_o ?_ | refine br_zn ?_ | refine br_on ?_ | refine nz2 ?_ | refine nz6 ?_ | refine nz32 ?_ | refine And.intro (by assumption) ?_))); (conv => whnf)
      refine ⟨fun hy => ?_, fun hy => ?_⟩
      · obtain ⟨a, ha, ea⟩ := rg_nI (n := 1) (by decide) hx
        obtain ⟨s, hs, es⟩ := rg_nI (n := 3) (by decide) hy
        subst es ea
        have i4 : vp_in (nI s) 4 := vp_in_nI (by omega) (by decide)
        have cs : (nI s).toNatClampNeg = s := nI_clamp (by omega)
        obtain ⟨w1, w2, w3⟩ := hi.2.2.2.2.2.2.2.2.1 s (by omega)
        obtain ⟨p, hp, ep⟩ := (hv.2.2.2.2.2.2.2 s (by omega)).2.2
        have ep2 : vn v 9 s = p := vn_nI ep (by omega)
        have kn : v 7 s = 0 → K (some (.int (-11))) (am_up D 49 51 1) L := fun e => by
          have k := hK (am_up D 49 51 1) (fo_up (by decide) (by decide) fo_rf)
          unfold gWrite qWrite at k
          rw [if_pos hx, if_pos hx, if_pos hy, if_pos hy, cN_nI (n := s) (by omega), if_pos e, if_pos e] at k
          exact k (im_find hi)
        have kk : ¬ v 7 s = 0 → ∀ D', fo D D' → im D' (gWr v s a (min p 48)) → K (some (.int (nI (min p 48)))) D' L := fun e D' f => by
          have k := hK D' f
          unfold gWrite qWrite at k
          rw [if_pos hx, if_pos hx, if_pos hy, if_pos hy, cN_nI (n := s) (by omega), cN_nI (n := a) (by omega), if_neg e, if_neg e, ep2] at k
          exact k
        (repeat ((conv => whnf); (first | refine zo0 ?_ | refine zo1 ?_ | refine br_z ?_ | refine br_o ?_ | refine br_zn ?_ | refine br_on ?_ | refine nz2 ?_ | refine nz6 ?_ | refine nz32 ?_ | refine And.intro (by assumption) ?_))); (conv => whnf)
        rw [cs, w1]
        refine ⟨fun h1 => ?_, fun h1 => ?_⟩
        rotate_left
        · (repeat ((conv => whnf); (first | refine zo0 ?_ | refine zo1 ?_ | refine br_z ?_ | refine br_o ?_ | refine br_zn ?_ | refine br_on ?_ | refine nz2 ?_ | refine nz6 ?_ | refine nz32 ?_ | refine And.intro (by assumption) ?_))); (conv => whnf)
          exact kn h1
        have kk := kk h1
        have loop : ∀ (m i : Nat) (D' : am_D), i + m = min p 48 → fo D D' → im D' (gWr v s a i) → (∀ t, t < 48 → D' 65 t = nI (va v (t + 1) 0 0) ∧ D' 66 t = nI (va v (t + 1) 0 1)) → am_Wp false 0 cdM_write fnM_write K 38 [some (.ref 49), some (.int (nI a)), some (.int (nI s)), some (.int (nI i))] [] D' L := by
          intro m
          induction m with
          | zero =>
            intro i D' hm f1 j1 h6
            have e76 : D' 76 s = nI p := ((j1.2.2.2.2.2.2.2.2.1 s (by omega)).2.2).trans ep
            rw [← show i = min p 48 by omega] at kk
            refine am_Wp_bl mfM_write [38] 20 _ _ _ _ _ ?_
            (repeat ((conv => whnf); (first | refine zo0 ?_ | refine zo1 ?_ | refine br_z ?_ | refine br_o ?_ | refine br_zn ?_ | refine br_on ?_ | refine nz2 ?_ | refine nz6 ?_ | refine nz32 ?_ | refine And.intro (by assumption) ?_))); (conv => whnf)
            rw [cs, e76, nI_leI (by omega) (by omega)]
            refine ⟨fun h1 => ?_, fun h1 => ?_⟩
            · (repeat ((conv => whnf); (first | refine zo0 ?_ | refine zo1 ?_ | refine br_z ?_ | refine br_o ?_ | refine br_zn ?_ | refine br_on ?_ | refine nz2 ?_ | refine nz6 ?_ | refine nz32 ?_ | refine And.intro (by assumption) ?_))); (conv => whnf)
              exact kk D' f1 j1
            · (repeat ((conv => whnf); (first | refine zo0 ?_ | refine zo1 ?_ | refine br_z ?_ | refine br_o ?_ | refine br_zn ?_ | refine br_on ?_ | refine nz2 ?_ | refine nz6 ?_ | refine nz32 ?_ | refine And.intro (by assumption) ?_))); (conv => whnf)
              refine ⟨fun h2 => ?_, fun h2 => absurd (nI_le (a := 48) (by omega) (by omega)) h2⟩
              (repeat ((conv => whnf); (first | refine zo0 ?_ | refine zo1 ?_ | refine br_z ?_ | refine br_o ?_ | refine br_zn ?_ | refine br_on ?_ | refine nz2 ?_ | refine nz6 ?_ | refine nz32 ?_ | refine And.intro (by assumption) ?_))); (conv => whnf)
              exact kk D' f1 j1
          | succ m ih =>
            intro i D' hm f1 j1 h6
            have e76 : D' 76 s = nI p := ((j1.2.2.2.2.2.2.2.2.1 s (by omega)).2.2).trans ep
            have e75 : D' 75 s = v 8 s := (j1.2.2.2.2.2.2.2.2.1 s (by omega)).2.1
            have i48 : vp_in (nI i) 48 := vp_in_nI (by omega) (by decide)
            have ci : (nI i).toNatClampNeg = i := nI_clamp (by omega)
            have h6i := h6 i (by omega)
            have nxt : ∀ z : Int32, z = nI (va v (i + 1) 0 a) → am_Wp false 0 cdM_write fnM_write K 38 [some (.ref 49), some (.int (nI a)), some (.int (nI s)), some (.int (nI (i + 1)))] [] (am_up D' 77 (60 * s + i) (cut (v 8 s) z)) L := by
              intro z hz
              refine ih (i + 1) _ (by omega) (fo_up (by decide) (by decide) f1) ?_ (fun t ht => by rw [am_up_ne (by decide), am_up_ne (by decide)]; exact h6 t ht)
              rw [hz, ← gWr_s]
              exact im_item j1 (by omega)
            refine am_Wp_bl mfM_write [38] 60 _ _ _ _ _ ?_
            (repeat ((conv => whnf); (first | refine zo0 ?_ | refine zo1 ?_ | refine br_z ?_ | refine br_o ?_ | refine br_zn ?_ | refine br_on ?_ | refine nz2 ?_ | refine nz6 ?_ | refine nz32 ?_ | refine And.intro (by assumption) ?_))); (conv => whnf)
            rw [cs, e76, nI_leI (by omega) (by omega)]
            refine ⟨fun h1 => absurd h1 (by omega), fun h1 => ?_⟩
            (repeat ((conv => whnf); (first | refine zo0 ?_ | refine zo1 ?_ | refine br_z ?_ | refine br_o ?_ | refine br_zn ?_ | refine br_on ?_ | refine nz2 ?_ | refine nz6 ?_ | refine nz32 ?_ | refine And.intro (by assumption) ?_))); (conv => whnf)
            refine ⟨fun h1 => absurd h1 (nI_ge (b := 48) (by omega) (by omega)), fun h1 => ?_⟩
            (repeat ((conv => whnf); (first | refine zo0 ?_ | refine zo1 ?_ | refine br_z ?_ | refine br_o ?_ | refine br_zn ?_ | refine br_on ?_ | refine nz2 ?_ | refine nz6 ?_ | refine nz32 ?_ | refine And.intro (by assumption) ?_))); (conv => whnf)
            rcases (show a = 0 ∨ a = 1 by omega) with rfl | rfl
            · refine ⟨fun q => absurd nI_0 q, fun _ => ?_⟩
              (repeat ((conv => whnf); (first | refine zo0 ?_ | refine zo1 ?_ | refine br_z ?_ | refine br_o ?_ | refine br_zn ?_ | refine br_on ?_ | refine nz2 ?_ | refine nz6 ?_ | refine nz32 ?_ | refine And.intro (by assumption) ?_))); (conv => whnf)
              refine ⟨s, i, rfl, by omega, rfl, by omega, ?_⟩
              rw [ci, e75]
              (repeat ((conv => whnf); (first | refine zo0 ?_ | refine zo1 ?_ | refine br_z ?_ | refine br_o ?_ | refine br_zn ?_ | refine br_on ?_ | refine nz2 ?_ | refine nz6 ?_ | refine nz32 ?_ | refine And.intro (by assumption) ?_))); (conv => whnf)
              rw [nI_1]
              exact nxt _ h6i.1
            · refine ⟨fun _ => ?_, fun q => absurd q (by rw [nc1]; decide)⟩
              (repeat ((conv => whnf); (first | refine zo0 ?_ | refine zo1 ?_ | refine br_z ?_ | refine br_o ?_ | refine br_zn ?_ | refine br_on ?_ | refine nz2 ?_ | refine nz6 ?_ | refine nz32 ?_ | refine And.intro (by assumption) ?_))); (conv => whnf)
              refine ⟨s, i, rfl, by omega, rfl, by omega, ?_⟩
              rw [ci, e75]
              (repeat ((conv => whnf); (first | refine zo0 ?_ | refine zo1 ?_ | refine br_z ?_ | refine br_o ?_ | refine br_zn ?_ | refine br_on ?_ | refine nz2 ?_ | refine nz6 ?_ | refine nz32 ?_ | refine And.intro (by assumption) ?_))); (conv => whnf)
              rw [nI_1]
              exact nxt _ h6i.2
        (repeat ((conv => whnf); (first | refine zo0 ?_ | refine zo1 ?_ | refine br_z ?_ | refine br_o ?_ | refine br_zn ?_ | refine br_on ?_ | refine nz2 ?_ | refine nz6 ?_ | refine nz32 ?_ | refine And.intro (by assumption) ?_))); (conv => whnf)
        refine ⟨v, hv, hi, fun D1 g f1 p1 q1 y1 => ?_⟩
        (repeat ((conv => whnf); (first | refine zo0 ?_ | refine zo1 ?_ | refine br_z ?_ | refine br_o ?_ | refine br_zn ?_ | refine br_on ?_ | refine nz2 ?_ | refine nz6 ?_ | refine nz32 ?_ | refine And.intro (by assumption) ?_))); (conv => whnf)
        refine loop (min p 48) 0 D1 (by omega) (fun k hk => f1.1 k (by omega)) (by rw [gWr_0]; exact im_fq hi f1) (fun t ht => ?_)
        exact ⟨(y1.1 t ht).1, (y1.1 t ht).2.1⟩
      · (repeat ((conv => whnf); (first | refine zo0 ?_ | refine zo1 ?_ | refine br_z ?_ | refine br_o ?_ | refine br_zn ?_ | refine br_on ?_ | refine nz2 ?_ | refine nz6 ?_ | refine nz32 ?_ | refine And.intro (by assumption) ?_))); (conv => whnf)
        have k := hK D fo_rf
        unfold gWrite qWrite at k
        rw [if_pos hx, if_pos hx, if_neg hy, if_neg hy] at k
        exact k hi
    · (repeat ((conv => whnf); (first | refine zo0 ?_ | refine zo1 ?_ | refine br_z ?_ | refine br_o ?_ | refine br_zn ?_ | refine br_on ?_ | refine nz2 ?_ | refine nz6 ?_ | refine nz32 ?_ | refine And.intro (by assumption) ?_))); (conv => whnf)
      have k := hK D fo_rf
      unfold gWrite qWrite at k
      rw [if_neg hx, if_neg hx] at k
      exact k hi
  · exact absurd h id
theorem clM_write (l : Launch) : ∀ (a : Nat) (ins : Instr) (b dd : Nat), csM_write[a]? = some (ins, b, dd) → am_Call l yM_write.cls 7 ins b dd (fnM_write a) := by
  intro a ins b dd h
  match a, h with
  | 0, h => cases h; exact am_callS (okM_isTwo l) wcM_isTwo (am_m5 (i := 55) rfl rfl) wtM_isTwo inM (by decide +kernel) (by decide) (by decide)
  | 1, h => cases h; exact am_callS (okM_isSheet l) wcM_isSheet (am_m5 (i := 96) rfl rfl) wtM_isSheet inM (by decide +kernel) (by decide) (by decide)
  | 2, h => cases h; exact am_callV (T := F_11) (N := 52) (okM_meets l) wcM_meets (am_m5 (i := 99) rfl rfl) wiM_meets wsM_meets inM rfl (by decide) (by decide +kernel) (by decide) (by decide)
  | 3, h => cases h; exact am_callV (T := F_11) (N := 52) (okM_runsTold l) wcM_runsTold (am_m5 (i := 112) rfl rfl) wiM_runsTold wsM_runsTold inM rfl (by decide) (by decide +kernel) (by decide) (by decide)
  | 4, h => cases h; exact am_callV (T := F_11) (N := 52) (okM_keep l) wcM_keep (am_m6 (i := 113) rfl rfl) wiM_keep wsM_keep inM rfl (by decide) (by decide +kernel) (by decide) (by decide)
  | k + 5, h => simp [csM_write] at h
theorem okM_write (l : Launch) : am_Ok l yM_write prog_13_method_91_code 4 (some .int) 7 spM_write := am_ok_of (by decide +kernel) flM_ok kiM_ok klM_ok ckM_write (clM_write l) wpM_write
def fnM_read : Nat → am_Sp := fun a => match a with
  | 0 => spM_isSheet
  | 1 => spM_meets
  | 2 => spM_event
  | _ => am_no
theorem mfM_read : ∀ a, am_mono (fnM_read a) := fun a => match a with
  | 0 => moM_isSheet
  | 1 => moM_meets
  | 2 => moM_event
  | _ + 3 => am_no_mono
def spM_read : am_Sp := fun as D L K => match as with
  | [.ref 49, .int x] => ∃ v : vs_T, vok v ∧ im D v ∧ ∀ D', fo D D' → im D' (gRead v x) → K (some (.int (qRead v x))) D' L
  | _ => False
theorem moM_read : am_mono spM_read := by
  intro as D L K K' hK h
  unfold spM_read at h ⊢
  split at h
  · obtain ⟨z0, z1, z2, hz⟩ := h
    exact ⟨z0, z1, z2, fun D' q1 q2 => hK _ _ _ (hz D' q1 q2)⟩
  · exact h
theorem wpM_read : ∀ (as : List Value) (D : am_D) (L : am_L) (K : am_K), spM_read as D L K → am_fit 4 as = true ∧ am_Wp false 0 cdM_read fnM_read K 0 (am_lo 4 as) [] D L := by
  intro as D L K h
  unfold spM_read at h
  split at h
  · rename_i x
    obtain ⟨v, hv, hi, hK⟩ := h
    refine ⟨rfl, am_Wp_bl mfM_read [32] 60 _ _ _ _ _ ?_⟩
    (repeat ((conv => whnf); (first | refine zo0 ?_ | refine zo1 ?_ | refine br_z ?_ | refine br_o ?_ | refine br_zn ?_ | refine br_on ?_ | refine nz2 ?_ | refine nz6 ?_ | refine nz32 ?_ | refine And.intro (by assumption) ?_))); (conv => whnf)
    refine ⟨fun hx => ?_, fun hx => ?_⟩
    · obtain ⟨s, hs, es⟩ := rg_nI (n := 3) (by decide) hx
      subst es
      have i4 : vp_in (nI s) 4 := vp_in_nI (by omega) (by decide)
      have cs : (nI s).toNatClampNeg = s := nI_clamp (by omega)
      obtain ⟨w1, w2, w3⟩ := hi.2.2.2.2.2.2.2.2.1 s (by omega)
      obtain ⟨p, hp, ep⟩ := (hv.2.2.2.2.2.2.2 s (by omega)).2.2
      have ep2 : vn v 9 s = p := vn_nI ep (by omega)
      have kn : v 7 s = 0 → K (some (.int (-11))) (am_up D 49 51 1) L := fun e => by
        have k := hK (am_up D 49 51 1) (fo_up (by decide) (by decide) fo_rf)
        unfold gRead qRead at k
        rw [if_pos hx, if_pos hx, cN_nI (n := s) (by omega), if_pos e, if_pos e] at k
        exact k (im_find hi)
      have kk : ¬ v 7 s = 0 → ∀ D', fo D D' → im D' (rdG s 20 0 v).1 → K (some (.int (nI (rdG s 20 0 v).2))) D' L := fun e D' f => by
        have k := hK D' f
        unfold gRead qRead at k
        rw [if_pos hx, if_pos hx, cN_nI (n := s) (by omega), if_neg e, if_neg e] at k
        exact k
      (repeat ((conv => whnf); (first | refine zo0 ?_ | refine zo1 ?_ | refine br_z ?_ | refine br_o ?_ | refine br_zn ?_ | refine br_on ?_ | refine nz2 ?_ | refine nz6 ?_ | refine nz32 ?_ | refine And.intro (by assumption) ?_))); (conv => whnf)
      rw [cs, w1]
      refine ⟨fun h1 => ?_, fun h1 => ?_⟩
      rotate_left
      · (repeat ((conv => whnf); (first | refine zo0 ?_ | refine zo1 ?_ | refine br_z ?_ | refine br_o ?_ | refine br_zn ?_ | refine br_on ?_ | refine nz2 ?_ | refine nz6 ?_ | refine nz32 ?_ | refine And.intro (by assumption) ?_))); (conv => whnf)
        exact kn h1
      have kk := kk h1
      have loop : ∀ (m n : Nat) (v' : vs_T) (D' : am_D), m + n = 20 → vok v' → fo D D' → im D' v' → (∀ c, 5 ≤ c → v' c = v c) → rdG s m n v' = rdG s 20 0 v → am_Wp false 0 cdM_read fnM_read K 32 [some (.ref 49), some (.int (nI s)), some (.int (nI n)), some (.int (60 * nI s))] [] D' L := by
        intro m
        induction m with
        | zero =>
          intro n v' D' hm hv' f1 j1 hc hr
          have e76 : D' 76 s = nI p := ((j1.2.2.2.2.2.2.2.2.1 s (by omega)).2.2).trans (by rw [hc 9 (by omega)]; exact ep)
          have e32 : (3 : Int32) * nI n + 2 = nI (3 * n + 2) := by rw [show (3 : Int32) = nI 3 by decide +kernel, show (2 : Int32) = nI 2 by decide +kernel, pk_mul, nI_add]
          rw [← hr] at kk
          refine am_Wp_bl mfM_read [32] 20 _ _ _ _ _ ?_
          (repeat ((conv => whnf); (first | refine zo0 ?_ | refine zo1 ?_ | refine br_z ?_ | refine br_o ?_ | refine br_zn ?_ | refine br_on ?_ | refine nz2 ?_ | refine nz6 ?_ | refine nz32 ?_ | refine And.intro (by assumption) ?_))); (conv => whnf)
          rw [cs, e76, e32, nI_leI (by omega) (by omega)]
          refine ⟨fun h1 => ?_, fun h1 => absurd (by omega) h1⟩
          (repeat ((conv => whnf); (first | refine zo0 ?_ | refine zo1 ?_ | refine br_z ?_ | refine br_o ?_ | refine br_zn ?_ | refine br_on ?_ | refine nz2 ?_ | refine nz6 ?_ | refine nz32 ?_ | refine And.intro (by assumption) ?_))); (conv => whnf)
          exact kk D' f1 j1
        | succ m ih =>
          intro n v' D' hm hv' f1 j1 hc hr
          have e76 : D' 76 s = nI p := ((j1.2.2.2.2.2.2.2.2.1 s (by omega)).2.2).trans (by rw [hc 9 (by omega)]; exact ep)
          have v9 : vn v' 9 s = p := by unfold vn; rw [hc 9 (by omega)]; exact ep2
          have e32 : (3 : Int32) * nI n + 2 = nI (3 * n + 2) := by rw [show (3 : Int32) = nI 3 by decide +kernel, show (2 : Int32) = nI 2 by decide +kernel, pk_mul, nI_add]
          have o0 : (60 : Int32) * nI s + 3 * nI n = nI (60 * s + 3 * n) := by rw [show (60 : Int32) = nI 60 by decide +kernel, show (3 : Int32) = nI 3 by decide +kernel, pk_mul, pk_mul, nI_add]
          have o1 : (60 : Int32) * nI s + 3 * nI n + 1 = nI (60 * s + 3 * n + 1) := by rw [o0, nI_1]
          have o2 : (60 : Int32) * nI s + 3 * nI n + 2 = nI (60 * s + 3 * n + 2) := by rw [o0, show (2 : Int32) = nI 2 by decide +kernel, nI_add]
          refine am_Wp_bl mfM_read [32] 60 _ _ _ _ _ ?_
          (repeat ((conv => whnf); (first | refine zo0 ?_ | refine zo1 ?_ | refine br_z ?_ | refine br_o ?_ | refine br_zn ?_ | refine br_on ?_ | refine nz2 ?_ | refine nz6 ?_ | refine nz32 ?_ | refine And.intro (by assumption) ?_))); (conv => whnf)
          rw [cs, e76, e32, nI_leI (by omega) (by omega)]
          refine ⟨fun h1 => ?_, fun h1 => ?_⟩
          · have er : rdG s (m + 1) n v' = (v', n) := by
              rw [rdG, if_neg (by rw [v9]; omega)]
            rw [er] at hr
            rw [← hr] at kk
            (repeat ((conv => whnf); (first | refine zo0 ?_ | refine zo1 ?_ | refine br_z ?_ | refine br_o ?_ | refine br_zn ?_ | refine br_on ?_ | refine nz2 ?_ | refine nz6 ?_ | refine nz32 ?_ | refine And.intro (by assumption) ?_))); (conv => whnf)
            exact kk D' f1 j1
          have i0 : vp_in ((60 : Int32) * nI s + 3 * nI n) 240 := by rw [o0]; exact vp_in_nI (by omega) (by decide)
          have i1 : vp_in ((60 : Int32) * nI s + 3 * nI n + 1) 240 := by rw [o1]; exact vp_in_nI (by omega) (by decide)
          have i2 : vp_in ((60 : Int32) * nI s + 3 * nI n + 2) 240 := by rw [o2]; exact vp_in_nI (by omega) (by decide)
          (repeat ((conv => whnf); (first | refine zo0 ?_ | refine zo1 ?_ | refine br_z ?_ | refine br_o ?_ | refine br_zn ?_ | refine br_on ?_ | refine nz2 ?_ | refine nz6 ?_ | refine nz32 ?_ | refine And.intro (by assumption) ?_))); (conv => whnf)
          rw [o1, o2, o0, nI_clamp (n := 60 * s + 3 * n) (by omega), nI_clamp (n := 60 * s + 3 * n + 1) (by omega), nI_clamp (n := 60 * s + 3 * n + 2) (by omega), j1.2.2.2.2.2.2.2.2.2 (60 * s + 3 * n) (by omega), j1.2.2.2.2.2.2.2.2.2 (60 * s + 3 * n + 1) (by omega), j1.2.2.2.2.2.2.2.2.2 (60 * s + 3 * n + 2) (by omega)]
          refine ⟨v', hv', j1, fun D2 f2 j2 => ?_⟩
          (repeat ((conv => whnf); (first | refine zo0 ?_ | refine zo1 ?_ | refine br_z ?_ | refine br_o ?_ | refine br_zn ?_ | refine br_on ?_ | refine nz2 ?_ | refine nz6 ?_ | refine nz32 ?_ | refine And.intro (by assumption) ?_))); (conv => whnf)
          refine ⟨fun h2 => ?_, fun h2 => ?_⟩
          · have er : rdG s (m + 1) n v' = (v', n) := by
              rw [rdG, if_neg (fun q => Int32.not_lt.mpr h2 q.2)]
            have ev : gEvent v' (v' 10 (60 * s + 3 * n)) (v' 10 (60 * s + 3 * n + 1)) (v' 10 (60 * s + 3 * n + 2)) = v' := gEvent_no h2 hv'
            rw [ev] at j2
            rw [er] at hr
            rw [← hr] at kk
            (repeat ((conv => whnf); (first | refine zo0 ?_ | refine zo1 ?_ | refine br_z ?_ | refine br_o ?_ | refine br_zn ?_ | refine br_on ?_ | refine nz2 ?_ | refine nz6 ?_ | refine nz32 ?_ | refine And.intro (by assumption) ?_))); (conv => whnf)
            exact kk D2 (fun k hk => (f2 k hk).trans (f1 k hk)) j2
          · have er : rdG s (m + 1) n v' = rdG s m (n + 1) (gEvent v' (v' 10 (60 * s + 3 * n)) (v' 10 (60 * s + 3 * n + 1)) (v' 10 (60 * s + 3 * n + 2))) := by
              rw [rdG, if_pos ⟨by rw [v9]; omega, Int32.not_le.mp h2⟩]
            (repeat ((conv => whnf); (first | refine zo0 ?_ | refine zo1 ?_ | refine br_z ?_ | refine br_o ?_ | refine br_zn ?_ | refine br_on ?_ | refine nz2 ?_ | refine nz6 ?_ | refine nz32 ?_ | refine And.intro (by assumption) ?_))); (conv => whnf)
            rw [nI_1]
            exact ih (n + 1) _ D2 (by omega) (vok_event hv') (fun k hk => (f2 k hk).trans (f1 k hk)) j2 (fun c h5 => (gEvent_c h5).trans (hc c h5)) (er.symm.trans hr)
      (repeat ((conv => whnf); (first | refine zo0 ?_ | refine zo1 ?_ | refine br_z ?_ | refine br_o ?_ | refine br_zn ?_ | refine br_on ?_ | refine nz2 ?_ | refine nz6 ?_ | refine nz32 ?_ | refine And.intro (by assumption) ?_))); (conv => whnf)
      exact loop 20 0 v D (by omega) hv fo_rf hi (fun _ _ => rfl) rfl
    · (repeat ((conv => whnf); (first | refine zo0 ?_ | refine zo1 ?_ | refine br_z ?_ | refine br_o ?_ | refine br_zn ?_ | refine br_on ?_ | refine nz2 ?_ | refine nz6 ?_ | refine nz32 ?_ | refine And.intro (by assumption) ?_))); (conv => whnf)
      have k := hK D fo_rf
      unfold gRead qRead at k
      rw [if_neg hx, if_neg hx] at k
      exact k hi
  · exact absurd h id
theorem clM_read (l : Launch) : ∀ (a : Nat) (ins : Instr) (b dd : Nat), csM_read[a]? = some (ins, b, dd) → am_Call l yM_read.cls 3 ins b dd (fnM_read a) := by
  intro a ins b dd h
  match a, h with
  | 0, h => cases h; exact am_callS (okM_isSheet l) wcM_isSheet (am_m5 (i := 96) rfl rfl) wtM_isSheet inM (by decide +kernel) (by decide) (by decide)
  | 1, h => cases h; exact am_callV (T := F_11) (N := 52) (okM_meets l) wcM_meets (am_m5 (i := 99) rfl rfl) wiM_meets wsM_meets inM rfl (by decide) (by decide +kernel) (by decide) (by decide)
  | 2, h => cases h; exact am_callV (T := F_11) (N := 52) (okM_event l) wcM_event (am_m5 (i := 103) rfl rfl) wiM_event wsM_event inM rfl (by decide) (by decide +kernel) (by decide) (by decide)
  | k + 3, h => simp [csM_read] at h
theorem okM_read (l : Launch) : am_Ok l yM_read prog_13_method_26_code 4 (some .int) 3 spM_read := am_ok_of (by decide +kernel) flM_ok kiM_ok klM_ok ckM_read (clM_read l) wpM_read
