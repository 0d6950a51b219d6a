def fnM_lose : Nat → am_Sp := fun a => match a with
  | 0 => spM_isSheet
  | 1 => spM_meets
  | _ => am_no
theorem mfM_lose : ∀ a, am_mono (fnM_lose a) := fun a => match a with
  | 0 => moM_isSheet
  | 1 => moM_meets
  | _ + 2 => am_no_mono
def spM_lose : am_Sp := fun as D L K => match as with
  | [.ref 49, .int x] => ∃ v : vs_T, vok v ∧ im D v ∧ ∀ D', fo D D' → im D' (gLose v x) → K (some (.int (qLose v x))) D' L
  | _ => False
theorem moM_lose : am_mono spM_lose := by
  intro as D L K K' hK h
  unfold spM_lose at h ⊢
  split at h
  · obtain ⟨z0, z1, z2, hz⟩ := h
    exact ⟨z0, z1, z2, fun D' q1 q2 => hK _ _ _ (hz D' q1 q2)⟩
  · exact h
theorem wpM_lose : ∀ (as : List Value) (D : am_D) (L : am_L) (K : am_K), spM_lose as D L K → am_fit 2 as = true ∧ am_Wp false 0 cdM_lose fnM_lose K 0 (am_lo 2 as) [] D L := by
  intro as D L K h
  unfold spM_lose at h
  split at h
  · rename_i x
    obtain ⟨v, hv, hi, hK⟩ := h
    refine ⟨rfl, am_Wp_bl mfM_lose [] 60 _ _ _ _ _ ?_⟩
    (repeat ((conv => whnf); (first | refine zo0 ?_ | refine zo1 ?_ | refine br_z ?_ | refine br_o ?_ | refine br_zn ?_ | refine br_on ?_ | refine nz2 ?_ | refine nz6 ?_ | refine nz32 ?_ | refine And.intro (by assumption) ?_))); (conv => whnf)
    refine ⟨fun hx => ?_, fun hx => ?_⟩
    · obtain ⟨s, hs, es⟩ := rg_nI (n := 3) (by decide) hx
      subst es
      have i4 : vp_in (nI s) 4 := vp_in_nI (by omega) (by decide)
      have cs : (nI s).toNatClampNeg = s := nI_clamp (by omega)
      obtain ⟨w1, w2, w3⟩ := hi.2.2.2.2.2.2.2.2.1 s (by omega)
      (repeat ((conv => whnf); (first | refine zo0 ?_ | refine zo1 ?_ | refine br_z ?_ | refine br_o ?_ | refine br_zn ?_ | refine br_on ?_ | refine nz2 ?_ | refine nz6 ?_ | refine nz32 ?_ | refine And.intro (by assumption) ?_))); (conv => whnf)
      rw [cs, w1]
      refine ⟨fun h1 => ?_, fun h1 => ?_⟩
      · (repeat ((conv => whnf); (first | refine zo0 ?_ | refine zo1 ?_ | refine br_z ?_ | refine br_o ?_ | refine br_zn ?_ | refine br_on ?_ | refine nz2 ?_ | refine nz6 ?_ | refine nz32 ?_ | refine And.intro (by assumption) ?_))); (conv => whnf)
        rw [cs, am_up_ne (by decide), w3]
        have k := hK (am_up D 74 s 0) (fo_up (by decide) (by decide) fo_rf)
        unfold gLose qLose at k
        rw [if_pos hx, if_pos hx, cN_nI (by omega), if_neg h1, if_neg h1] at k
        exact k (im_there hi (by omega))
      · (repeat ((conv => whnf); (first | refine zo0 ?_ | refine zo1 ?_ | refine br_z ?_ | refine br_o ?_ | refine br_zn ?_ | refine br_on ?_ | refine nz2 ?_ | refine nz6 ?_ | refine nz32 ?_ | refine And.intro (by assumption) ?_))); (conv => whnf)
        have k := hK (am_up D 49 51 1) (fo_up (by decide) (by decide) fo_rf)
        unfold gLose qLose at k
        rw [if_pos hx, if_pos hx, cN_nI (by omega), if_pos h1, if_pos h1] at k
        exact k (im_find hi)
    · (repeat ((conv => whnf); (first | refine zo0 ?_ | refine zo1 ?_ | refine br_z ?_ | refine br_o ?_ | refine br_zn ?_ | refine br_on ?_ | refine nz2 ?_ | refine nz6 ?_ | refine nz32 ?_ | refine And.intro (by assumption) ?_))); (conv => whnf)
      have k := hK D fo_rf
      unfold gLose qLose at k
      rw [if_neg hx, if_neg hx] at k
      exact k hi
  · exact absurd h id
theorem clM_lose (l : Launch) : ∀ (a : Nat) (ins : Instr) (b dd : Nat), csM_lose[a]? = some (ins, b, dd) → am_Call l yM_lose.cls 2 ins b dd (fnM_lose a) := by
  intro a ins b dd h
  match a, h with
  | 0, h => cases h; exact am_callS (okM_isSheet l) wcM_isSheet (am_m5 (i := 96) rfl rfl) wtM_isSheet inM (by decide +kernel) (by decide) (by decide)
  | 1, h => cases h; exact am_callV (T := F_11) (N := 52) (okM_meets l) wcM_meets (am_m5 (i := 99) rfl rfl) wiM_meets wsM_meets inM rfl (by decide) (by decide +kernel) (by decide) (by decide)
  | k + 2, h => simp [csM_lose] at h
theorem okM_lose (l : Launch) : am_Ok l yM_lose prog_13_method_85_code 2 (some .int) 2 spM_lose := am_ok_of (by decide +kernel) flM_ok kiM_ok klM_ok ckM_lose (clM_lose l) wpM_lose
def fnM_put : Nat → am_Sp := fun a => match a with
  | 0 => spM_isSheet
  | 1 => spM_in
  | 2 => spM_lacks3
  | 3 => spM_meets
  | 4 => spM_keep
  | _ => am_no
theorem mfM_put : ∀ a, am_mono (fnM_put a) := fun a => match a with
  | 0 => moM_isSheet
  | 1 => moM_in
  | 2 => moM_lacks3
  | 3 => moM_meets
  | 4 => moM_keep
  | _ + 5 => am_no_mono
def spM_put : am_Sp := fun as D L K => match as with
  | [.ref 49, .int x, .int y, .int z, .int u] => ∃ v : vs_T, vok v ∧ im D v ∧ ∀ D', fo D D' → im D' (gPut v x y z u) → K (some (.int (qPut v x y z u))) D' L
  | _ => False
theorem moM_put : am_mono spM_put := by
  intro as D L K K' hK h
  unfold spM_put at h ⊢
  split at h
  · obtain ⟨z0, z1, z2, hz⟩ := h
    exact ⟨z0, z1, z2, fun D' q1 q2 => hK _ _ _ (hz D' q1 q2)⟩
  · exact h
theorem wpM_put : ∀ (as : List Value) (D : am_D) (L : am_L) (K : am_K), spM_put as D L K → am_fit 6 as = true ∧ am_Wp false 0 cdM_put fnM_put K 0 (am_lo 6 as) [] D L := by
  intro as D L K h
  unfold spM_put at h
  split at h
  · rename_i x y z u
    obtain ⟨v, hv, hi, hK⟩ := h
    refine ⟨rfl, am_Wp_bl mfM_put [] 60 _ _ _ _ _ ?_⟩
    (repeat ((conv => whnf); (first | refine zo0 ?_ | refine zo1 ?_ | refine br_z ?_ | refine br_o ?_ | refine br_zn ?_ | refine br_on ?_ | refine nz2 ?_ | refine nz6 ?_ | refine nz32 ?_ | refine And.intro (by assumption) ?_))); (conv => whnf)
    refine ⟨fun hx => ?_, fun hx => ?_⟩
    · (repeat ((conv => whnf); (first | refine zo0 ?_ | refine zo1 ?_ | refine br_z ?_ | refine br_o ?_ | refine br_zn ?_ | refine br_on ?_ | refine nz2 ?_ | refine nz6 ?_ | refine nz32 ?_ | refine And.intro (by assumption) ?_))); (conv => whnf)
      refine ⟨fun hy => ?_, fun hy => ?_⟩
      · obtain ⟨s, hs, es⟩ := rg_nI (n := 3) (by decide) hx
        subst es
        obtain ⟨w1, w2, w3⟩ := hi.2.2.2.2.2.2.2.2.1 s (by omega)
        obtain ⟨n, hn, en⟩ := (hv.2.2.2.2.2.2.2 s (by omega)).2.2
        (repeat ((conv => whnf); (first | refine zo0 ?_ | refine zo1 ?_ | refine br_z ?_ | refine br_o ?_ | refine br_zn ?_ | refine br_on ?_ | refine nz2 ?_ | refine nz6 ?_ | refine nz32 ?_ | refine And.intro (by assumption) ?_))); (conv => whnf)
        refine ⟨s, rfl, by omega, ?_⟩
        rw [w1, w2, w3]
        have k1 : lck (v 7 s) (v 8 s) (v 9 s) y z = 0 → ∀ D', fo D D' → im D' (am_up v 10 (60 * s + cN z) (cut (v 8 s) u)) → K (some (.int 1)) D' L := fun e D' f => by
          have k := hK D' f
          unfold gPut qPut vlck at k
          rw [if_pos hx, if_pos hx, if_pos hy, if_pos hy, cN_nI (by omega), if_pos e, if_pos e] at k
          exact k
        have k2 : ¬ lck (v 7 s) (v 8 s) (v 9 s) y z = 0 → ∀ D', fo D D' → im D' (gFind v (lck (v 7 s) (v 8 s) (v 9 s) y z)) → K (some (.int (-10 - lck (v 7 s) (v 8 s) (v 9 s) y z))) D' L := fun e D' f => by
          have k := hK D' f
          unfold gPut qPut vlck at k
          rw [if_pos hx, if_pos hx, if_pos hy, if_pos hy, cN_nI (by omega), if_neg e, if_neg e] at k
          exact k
        have r0 := lck_r (v 7 s) (v 8 s) (v 9 s) y z
        have e0 := lck_0 (a := v 7 s) (f := v 8 s) (form := y) (i := z) en hn
        generalize lck (v 7 s) (v 8 s) (v 9 s) y z = r at k1 k2 r0 e0
        (repeat ((conv => whnf); (first | refine zo0 ?_ | refine zo1 ?_ | refine br_z ?_ | refine br_o ?_ | refine br_zn ?_ | refine br_on ?_ | refine nz2 ?_ | refine nz6 ?_ | refine nz32 ?_ | refine And.intro (by assumption) ?_))); (conv => whnf)
        refine ⟨fun h1 => ?_, fun h1 => ?_⟩
        · have r1 : r = 0 := by
            rcases r0 with q | q | q | q
            · exact q
            all_goals (rw [q] at h1; exact absurd h1 (by decide))
          obtain ⟨j, hj, ej⟩ := e0 r1
          have kk := k1 r1 (am_up D 77 (60 * s + j) (cut (v 8 s) u)) (fo_up (by decide) (by decide) fo_rf) (by rw [ej, cN_nI (by omega)]; exact im_item hi (by omega))
          (repeat ((conv => whnf); (first | refine zo0 ?_ | refine zo1 ?_ | refine br_z ?_ | refine br_o ?_ | refine br_zn ?_ | refine br_on ?_ | refine nz2 ?_ | refine nz6 ?_ | refine nz32 ?_ | refine And.intro (by assumption) ?_))); (conv => whnf)
          refine ⟨s, j, rfl, by omega, ej, by omega, ?_⟩
          rw [w2]
          (repeat ((conv => whnf); (first | refine zo0 ?_ | refine zo1 ?_ | refine br_z ?_ | refine br_o ?_ | refine br_zn ?_ | refine br_on ?_ | refine nz2 ?_ | refine nz6 ?_ | refine nz32 ?_ | refine And.intro (by assumption) ?_))); (conv => whnf)
          exact kk
        · have r1 : ¬ r = 0 := fun q => h1 (by rw [q]; decide)
          (repeat ((conv => whnf); (first | refine zo0 ?_ | refine zo1 ?_ | refine br_z ?_ | refine br_o ?_ | refine br_zn ?_ | refine br_on ?_ | refine nz2 ?_ | refine nz6 ?_ | refine nz32 ?_ | refine And.intro (by assumption) ?_))); (conv => whnf)
          exact k2 r1 (am_up D 49 51 r) (fo_up (by decide) (by decide) fo_rf) (im_find hi)
      · (repeat ((conv => whnf); (first | refine zo0 ?_ | refine zo1 ?_ | refine br_z ?_ | refine br_o ?_ | refine br_zn ?_ | refine br_on ?_ | refine nz2 ?_ | refine nz6 ?_ | refine nz32 ?_ | refine And.intro (by assumption) ?_))); (conv => whnf)
        have k := hK D fo_rf
        unfold gPut qPut at k
        rw [if_pos hx, if_pos hx, if_neg hy, if_neg hy] at k
        exact k hi
    · (repeat ((conv => whnf); (first | refine zo0 ?_ | refine zo1 ?_ | refine br_z ?_ | refine br_o ?_ | refine br_zn ?_ | refine br_on ?_ | refine nz2 ?_ | refine nz6 ?_ | refine nz32 ?_ | refine And.intro (by assumption) ?_))); (conv => whnf)
      have k := hK D fo_rf
      unfold gPut qPut at k
      rw [if_neg hx, if_neg hx] at k
      exact k hi
  · exact absurd h id
theorem clM_put (l : Launch) : ∀ (a : Nat) (ins : Instr) (b dd : Nat), csM_put[a]? = some (ins, b, dd) → am_Call l yM_put.cls 2 ins b dd (fnM_put a) := by
  intro a ins b dd h
  match a, h with
  | 0, h => cases h; exact am_callS (okM_isSheet l) wcM_isSheet (am_m5 (i := 96) rfl rfl) wtM_isSheet inM (by decide +kernel) (by decide) (by decide)
  | 1, h => cases h; exact am_callS (okM_in l) wcM_in (am_m5 (i := 29) rfl rfl) wtM_in inM (by decide +kernel) (by decide) (by decide)
  | 2, h => cases h; exact am_callV (T := F_11) (N := 52) (okM_lacks3 l) wcM_lacks3 (am_m6 (i := 109) rfl rfl) wiM_lacks3 wsM_lacks3 inM rfl (by decide) (by decide +kernel) (by decide) (by decide)
  | 3, h => cases h; exact am_callV (T := F_11) (N := 52) (okM_meets l) wcM_meets (am_m5 (i := 99) rfl rfl) wiM_meets wsM_meets inM rfl (by decide) (by decide +kernel) (by decide) (by decide)
  | 4, h => cases h; exact am_callV (T := F_11) (N := 52) (okM_keep l) wcM_keep (am_m6 (i := 113) rfl rfl) wiM_keep wsM_keep inM rfl (by decide) (by decide +kernel) (by decide) (by decide)
  | k + 5, h => simp [csM_put] at h
theorem okM_put (l : Launch) : am_Ok l yM_put prog_13_method_88_code 6 (some .int) 2 spM_put := am_ok_of (by decide +kernel) flM_ok kiM_ok klM_ok ckM_put (clM_put l) wpM_put
def fnM_get : Nat → am_Sp := fun a => match a with
  | 0 => spM_isSheet
  | 1 => spM_in
  | 2 => spM_lacks3
  | _ => am_no
theorem mfM_get : ∀ a, am_mono (fnM_get a) := fun a => match a with
  | 0 => moM_isSheet
  | 1 => moM_in
  | 2 => moM_lacks3
  | _ + 3 => am_no_mono
def spM_get : am_Sp := fun as D L K => match as with
  | [.ref 49, .int x, .int y, .int z] => ∃ v : vs_T, vok v ∧ im D v ∧ ∀ D', fo D D' → im D' (gGet v x y z) → K (some (.int (qGet v x y z))) D' L
  | _ => False
theorem moM_get : am_mono spM_get := by
  intro as D L K K' hK h
  unfold spM_get at h ⊢
  split at h
  · obtain ⟨z0, z1, z2, hz⟩ := h
    exact ⟨z0, z1, z2, fun D' q1 q2 => hK _ _ _ (hz D' q1 q2)⟩
  · exact h
theorem wpM_get : ∀ (as : List Value) (D : am_D) (L : am_L) (K : am_K), spM_get as D L K → am_fit 5 as = true ∧ am_Wp false 0 cdM_get fnM_get K 0 (am_lo 5 as) [] D L := by
  intro as D L K h
  unfold spM_get at h
  split at h
  · rename_i x y z
    obtain ⟨v, hv, hi, hK⟩ := h
    refine ⟨rfl, am_Wp_bl mfM_get [] 60 _ _ _ _ _ ?_⟩
    (repeat ((conv => whnf); (first | refine zo0 ?_ | refine zo1 ?_ | refine br_z ?_ | refine br_o ?_ | refine br_zn ?_ | refine br_on ?_ | refine nz2 ?_ | refine nz6 ?_ | refine nz32 ?_ | refine And.intro (by assumption) ?_))); (conv => whnf)
    refine ⟨fun hx => ?_, fun hx => ?_⟩
    · (repeat ((conv => whnf); (first | refine zo0 ?_ | refine zo1 ?_ | refine br_z ?_ | refine br_o ?_ | refine br_zn ?_ | refine br_on ?_ | refine nz2 ?_ | refine nz6 ?_ | refine nz32 ?_ | refine And.intro (by assumption) ?_))); (conv => whnf)
      refine ⟨fun hy => ?_, fun hy => ?_⟩
      · obtain ⟨s, hs, es⟩ := rg_nI (n := 3) (by decide) hx
        subst es
        obtain ⟨w1, w2, w3⟩ := hi.2.2.2.2.2.2.2.2.1 s (by omega)
        obtain ⟨n, hn, en⟩ := (hv.2.2.2.2.2.2.2 s (by omega)).2.2
        (repeat ((conv => whnf); (first | refine zo0 ?_ | refine zo1 ?_ | refine br_z ?_ | refine br_o ?_ | refine br_zn ?_ | refine br_on ?_ | refine nz2 ?_ | refine nz6 ?_ | refine nz32 ?_ | refine And.intro (by assumption) ?_))); (conv => whnf)
        refine ⟨s, rfl, by omega, ?_⟩
        rw [w1, w2, w3]
        have k1 : lck (v 7 s) (v 8 s) (v 9 s) y z = 0 → K (some (.int (v 10 (60 * s + cN z)))) D L := fun e => by
          have k := hK D fo_rf
          unfold gGet qGet vlck at k
          rw [if_pos hx, if_pos hx, if_pos hy, if_pos hy, cN_nI (by omega), if_pos e, if_pos e] at k
          exact k hi
        have k2 : ¬ lck (v 7 s) (v 8 s) (v 9 s) y z = 0 → ∀ D', fo D D' → im D' (gFind v (lck (v 7 s) (v 8 s) (v 9 s) y z)) → K (some (.int (-2147483648))) D' L := fun e D' f => by
          have k := hK D' f
          unfold gGet qGet vlck at k
          rw [if_pos hx, if_pos hx, if_pos hy, if_pos hy, cN_nI (by omega), if_neg e, if_neg e] at k
          exact k
        have r0 := lck_r (v 7 s) (v 8 s) (v 9 s) y z
        have e0 := lck_0 (a := v 7 s) (f := v 8 s) (form := y) (i := z) en hn
        generalize lck (v 7 s) (v 8 s) (v 9 s) y z = r at k1 k2 r0 e0
        (repeat ((conv => whnf); (first | refine zo0 ?_ | refine zo1 ?_ | refine br_z ?_ | refine br_o ?_ | refine br_zn ?_ | refine br_on ?_ | refine nz2 ?_ | refine nz6 ?_ | refine nz32 ?_ | refine And.intro (by assumption) ?_))); (conv => whnf)
        refine ⟨fun h1 => ?_, fun h1 => ?_⟩
        · have r1 : r = 0 := by
            rcases r0 with q | q | q | q
            · exact q
            all_goals (rw [q] at h1; exact absurd h1 (by decide))
          obtain ⟨j, hj, ej⟩ := e0 r1
          have kk := k1 r1
          subst ej
          have e60 : (60 : Int32) * nI s + nI j = nI (60 * s + j) := by rw [show (60 : Int32) = nI 60 by decide +kernel, pk_mul, nI_add]
          have i240 : vp_in (60 * nI s + nI j) 240 := by rw [e60]; exact vp_in_nI (by omega) (by decide)
          have c240 : (60 * nI s + nI j).toNatClampNeg = 60 * s + j := by rw [e60]; exact nI_clamp (by omega)
          rw [cN_nI (by omega), ← hi.2.2.2.2.2.2.2.2.2 (60 * s + j) (by omega)] at kk
          (repeat ((conv => whnf); (first | refine zo0 ?_ | refine zo1 ?_ | refine br_z ?_ | refine br_o ?_ | refine br_zn ?_ | refine br_on ?_ | refine nz2 ?_ | refine nz6 ?_ | refine nz32 ?_ | refine And.intro (by assumption) ?_))); (conv => whnf)
          rw [c240]
          exact kk
        · have r1 : ¬ r = 0 := fun q => h1 (by rw [q]; decide)
          (repeat ((conv => whnf); (first | refine zo0 ?_ | refine zo1 ?_ | refine br_z ?_ | refine br_o ?_ | refine br_zn ?_ | refine br_on ?_ | refine nz2 ?_ | refine nz6 ?_ | refine nz32 ?_ | refine And.intro (by assumption) ?_))); (conv => whnf)
          exact k2 r1 (am_up D 49 51 r) (fo_up (by decide) (by decide) fo_rf) (im_find hi)
      · (repeat ((conv => whnf); (first | refine zo0 ?_ | refine zo1 ?_ | refine br_z ?_ | refine br_o ?_ | refine br_zn ?_ | refine br_on ?_ | refine nz2 ?_ | refine nz6 ?_ | refine nz32 ?_ | refine And.intro (by assumption) ?_))); (conv => whnf)
        have k := hK D fo_rf
        unfold gGet qGet at k
        rw [if_pos hx, if_pos hx, if_neg hy, if_neg hy] at k
        exact k hi
    · (repeat ((conv => whnf); (first | refine zo0 ?_ | refine zo1 ?_ | refine br_z ?_ | refine br_o ?_ | refine br_zn ?_ | refine br_on ?_ | refine nz2 ?_ | refine nz6 ?_ | refine nz32 ?_ | refine And.intro (by assumption) ?_))); (conv => whnf)
      have k := hK D fo_rf
      unfold gGet qGet at k
      rw [if_neg hx, if_neg hx] at k
      exact k hi
  · exact absurd h id
theorem clM_get (l : Launch) : ∀ (a : Nat) (ins : Instr) (b dd : Nat), csM_get[a]? = some (ins, b, dd) → am_Call l yM_get.cls 2 ins b dd (fnM_get a) := by
  intro a ins b dd h
  match a, h with
  | 0, h => cases h; exact am_callS (okM_isSheet l) wcM_isSheet (am_m5 (i := 96) rfl rfl) wtM_isSheet inM (by decide +kernel) (by decide) (by decide)
  | 1, h => cases h; exact am_callS (okM_in l) wcM_in (am_m5 (i := 29) rfl rfl) wtM_in inM (by decide +kernel) (by decide) (by decide)
  | 2, h => cases h; exact am_callV (T := F_11) (N := 52) (okM_lacks3 l) wcM_lacks3 (am_m6 (i := 109) rfl rfl) wiM_lacks3 wsM_lacks3 inM rfl (by decide) (by decide +kernel) (by decide) (by decide)
  | k + 3, h => simp [csM_get] at h
theorem okM_get (l : Launch) : am_Ok l yM_get prog_13_method_89_code 5 (some .int) 2 spM_get := am_ok_of (by decide +kernel) flM_ok kiM_ok klM_ok ckM_get (clM_get l) wpM_get
