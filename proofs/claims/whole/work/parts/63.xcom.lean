def fnX_type : Nat → am_Sp := fun a => match a with
  | 0 => spX_textOf
  | 1 => spT_add
  | 2 => spX_hearTexts
  | _ => am_no
theorem mfX_type : ∀ a, am_mono (fnX_type a) := fun a => match a with
  | 0 => moX_textOf
  | 1 => moT_add
  | 2 => moX_hearTexts
  | _ + 3 => am_no_mono
def spX_type : am_Sp := fun as D L K => match as with
  | [.ref 0, .int x, .int y] => ∃ v : vs_T, vok v ∧ ix D v ∧ ∀ (D' : am_D) (L' : am_L), fc D D' → ix D' (gType v x y) → K (some (.int (qType v x y))) D' L'
  | _ => False
theorem moX_type : am_mono spX_type := by
  intro as D L K K' hK h
  unfold spX_type at h ⊢
  split at h
  · obtain ⟨z0, z1, z2, hz⟩ := h
    exact ⟨z0, z1, z2, fun D' L' q1 q2 => hK _ _ _ (hz D' L' q1 q2)⟩
  · exact h
theorem wpX_type : ∀ (as : List Value) (D : am_D) (L : am_L) (K : am_K), spX_type as D L K → am_fit 5 as = true ∧ am_Wp false 0 cdX_type fnX_type K 0 (am_lo 5 as) [] D L := by
  intro as D L K h
  unfold spX_type at h
  split at h
  · rename_i x y
    obtain ⟨v, hv, hi, hK⟩ := h
    have kb : ¬ ((0 ≤ x ∧ x ≤ 2) ∧ (0 ≤ y ∧ y ≤ 255)) → K (some (.int (-2))) D L := fun q => by
      have k := hK D L fc_rf
      unfold qType gType at k
      by_cases c0 : (0 ≤ x ∧ x ≤ 2)
      · by_cases c1 : (0 ≤ y ∧ y ≤ 255)
        · exact absurd ⟨c0, c1⟩ q
        · rw [if_pos c0, if_pos c0, if_neg c1, if_neg c1] at k
          exact k hi
      · rw [if_neg c0, if_neg c0] at k
        exact k hi
    refine ⟨rfl, am_Wp_bl mfX_type [] 90 _ _ _ _ _ ?_⟩
    (repeat ((conv => whnf); (first | refine zo0 ?_ | refine zo1 ?_ | refine br_z ?_ | refine br_o ?_ | refine br_zn ?_ | refine br_on ?_ | refine nz2 ?_ | refine nz6 ?_ | refine nz32 ?_ | refine And.intro (by assumption) ?_))); (conv => whnf)
    refine ⟨fun ex => ?_, fun ex => ?_, fun ex => ?_, fun ex => ?_⟩
    · subst ex
      obtain ⟨t1, t2, t3, t4, t5⟩ := hi.1.1 0 (by decide)
      obtain ⟨e0, e1⟩ := vok_len hv (show 0 < 3 by decide)
      have q1 : D 1 1 = nI (vcap 0) := t1
      have q4 : D 1 4 = nI (vn v 0 0) := t4.trans e0
      have l2 : vcap 0 ≤ 24 := vcap_le 0
      have hx : (0 : Int32) ≤ 0 ∧ (0 : Int32) ≤ 2 := by decide
      (repeat ((conv => whnf); (first | refine zo0 ?_ | refine zo1 ?_ | refine br_z ?_ | refine br_o ?_ | refine br_zn ?_ | refine br_on ?_ | refine nz2 ?_ | refine nz6 ?_ | refine nz32 ?_ | refine And.intro (by assumption) ?_))); (conv => whnf)
      refine ⟨fun h1 => ?_, fun h1 => ?_⟩
      · (repeat ((conv => whnf); (first | refine zo0 ?_ | refine zo1 ?_ | refine br_z ?_ | refine br_o ?_ | refine br_zn ?_ | refine br_on ?_ | refine nz2 ?_ | refine nz6 ?_ | refine nz32 ?_ | refine And.intro (by assumption) ?_))); (conv => whnf)
        exact kb (fun q => rn0 h1 q.2)
      (repeat ((conv => whnf); (first | refine zo0 ?_ | refine zo1 ?_ | refine br_z ?_ | refine br_o ?_ | refine br_zn ?_ | refine br_on ?_ | refine nz2 ?_ | refine nz6 ?_ | refine nz32 ?_ | refine And.intro (by assumption) ?_))); (conv => whnf)
      refine ⟨fun h2 => ?_, fun h2 => ?_⟩
      rotate_left
      · (repeat ((conv => whnf); (first | refine zo0 ?_ | refine zo1 ?_ | refine br_z ?_ | refine br_o ?_ | refine br_zn ?_ | refine br_on ?_ | refine nz2 ?_ | refine nz6 ?_ | refine nz32 ?_ | refine And.intro (by assumption) ?_))); (conv => whnf)
        exact kb (fun q => rn2 h2 q.2)
      have hy : 0 ≤ y ∧ y ≤ 255 := ⟨Int32.not_lt.mp h1, h2⟩
      (repeat ((conv => whnf); (first | refine zo0 ?_ | refine zo1 ?_ | refine br_z ?_ | refine br_o ?_ | refine br_zn ?_ | refine br_on ?_ | refine nz2 ?_ | refine nz6 ?_ | refine nz32 ?_ | refine And.intro (by assumption) ?_))); (conv => whnf)
      rw [q4]
      refine ⟨fun h3 => absurd h3 (nI_pos (by omega)), fun h3 => ?_⟩
      (repeat ((conv => whnf); (first | refine zo0 ?_ | refine zo1 ?_ | refine br_z ?_ | refine br_o ?_ | refine br_zn ?_ | refine br_on ?_ | refine nz2 ?_ | refine nz6 ?_ | refine nz32 ?_ | refine And.intro (by assumption) ?_))); (conv => whnf)
      rw [q4, q1, nI_leI (by omega) (by omega)]
      refine ⟨fun h4 => ?_, fun h4 => ?_⟩
      · (repeat ((conv => whnf); (first | refine zo0 ?_ | refine zo1 ?_ | refine br_z ?_ | refine br_o ?_ | refine br_zn ?_ | refine br_on ?_ | refine nz2 ?_ | refine nz6 ?_ | refine nz32 ?_ | refine And.intro (by assumption) ?_))); (conv => whnf)
        refine ⟨fun _ => ?_, fun q => absurd rfl q⟩
        (repeat ((conv => whnf); (first | refine zo0 ?_ | refine zo1 ?_ | refine br_z ?_ | refine br_o ?_ | refine br_zn ?_ | refine br_on ?_ | refine nz2 ?_ | refine nz6 ?_ | refine nz32 ?_ | refine And.intro (by assumption) ?_))); (conv => whnf)
        have k := hK D L fc_rf
        unfold gType qType at k
        rw [if_pos hx, if_pos hx, if_pos hy, if_pos hy, cN_0, if_pos (by omega), if_pos (by omega)] at k
        exact k hi
      have in24 : vp_in (D 1 4) 24 := by rw [q4]; exact vp_in_nI (by omega) (by decide)
      have cn : (D 1 4).toNatClampNeg = vn v 0 0 := by rw [q4]; exact nI_clamp (by omega)
      (repeat ((conv => whnf); (first | refine zo0 ?_ | refine zo1 ?_ | refine br_z ?_ | refine br_o ?_ | refine br_zn ?_ | refine br_on ?_ | refine nz2 ?_ | refine nz6 ?_ | refine nz32 ?_ | refine And.intro (by assumption) ?_))); (conv => whnf)
      refine ⟨fun h5 => ?_, fun h5 => absurd (by rw [q4]; exact nI_lt (b := 24) (by omega) (by omega)) h5⟩
      (repeat ((conv => whnf); (first | refine zo0 ?_ | refine zo1 ?_ | refine br_z ?_ | refine br_o ?_ | refine br_zn ?_ | refine br_on ?_ | refine nz2 ?_ | refine nz6 ?_ | refine nz32 ?_ | refine And.intro (by assumption) ?_))); (conv => whnf)
      rw [cn, am_up_ne (show (1 : Nat) ≠ 2 by decide), q4, nI_1, ap_s]
      refine ⟨fun q => absurd q (nI_m4 _ (by omega)), fun _ => ?_⟩
      obtain ⟨bb, hb, eb⟩ := rg_nI (n := 255) (by decide) hy
      have it1 : it (am_up (am_up D 2 (vn v 0 0) y) 1 4 (nI (vn v 0 0 + 1))) (am_up (am_up v 1 (24 * 0 + vn v 0 0) y) 0 0 (nI (vn v 0 0 + 1))) := it_len (t := 0) (it_byte (t := 0) (by omega) hi.1.1)
      have vk : vok (am_up (am_up v 1 (24 * 0 + vn v 0 0) y) 0 0 (nI (vn v 0 0 + 1))) := vok_lenu (by rw [eb]; exact vok_byteu hv hb) (by decide) (by omega)
      (repeat ((conv => whnf); (first | refine zo0 ?_ | refine zo1 ?_ | refine br_z ?_ | refine br_o ?_ | refine br_zn ?_ | refine br_on ?_ | refine nz2 ?_ | refine nz6 ?_ | refine nz32 ?_ | refine And.intro (by assumption) ?_))); (conv => whnf)
      refine ⟨_, vk, it1, fun D2 f2 c2 e3 e15 e17 => ?_⟩
      obtain ⟨ix2, fc2⟩ := ix_hear hi (fun k hk => by rw [am_up_ne (by omega), am_up_ne (by omega)]) (fun i h3 => by rw [ap, if_pos rfl, if_neg (by omega), am_up_ne (by decide)]) (fun c hc => by rw [am_up_ne (by omega), am_up_ne (by omega)]) it1 f2 c2 e3 e15 e17
      (repeat ((conv => whnf); (first | refine zo0 ?_ | refine zo1 ?_ | refine br_z ?_ | refine br_o ?_ | refine br_zn ?_ | refine br_on ?_ | refine nz2 ?_ | refine nz6 ?_ | refine nz32 ?_ | refine And.intro (by assumption) ?_))); (conv => whnf)
      have k := hK D2 L fc2
      unfold gType qType at k
      rw [if_pos hx, if_pos hx, if_pos hy, if_pos hy, cN_0, if_neg (by omega), if_neg (by omega)] at k
      exact k ix2
    · subst ex
      obtain ⟨t1, t2, t3, t4, t5⟩ := hi.1.1 1 (by decide)
      obtain ⟨e0, e1⟩ := vok_len hv (show 1 < 3 by decide)
      have q1 : D 3 1 = nI (vcap 1) := t1
      have q4 : D 3 4 = nI (vn v 0 1) := t4.trans e0
      have l2 : vcap 1 ≤ 24 := vcap_le 1
      have hx : (0 : Int32) ≤ 1 ∧ (1 : Int32) ≤ 2 := by decide
      (repeat ((conv => whnf); (first | refine zo0 ?_ | refine zo1 ?_ | refine br_z ?_ | refine br_o ?_ | refine br_zn ?_ | refine br_on ?_ | refine nz2 ?_ | refine nz6 ?_ | refine nz32 ?_ | refine And.intro (by assumption) ?_))); (conv => whnf)
      refine ⟨fun h1 => ?_, fun h1 => ?_⟩
      · (repeat ((conv => whnf); (first | refine zo0 ?_ | refine zo1 ?_ | refine br_z ?_ | refine br_o ?_ | refine br_zn ?_ | refine br_on ?_ | refine nz2 ?_ | refine nz6 ?_ | refine nz32 ?_ | refine And.intro (by assumption) ?_))); (conv => whnf)
        exact kb (fun q => rn0 h1 q.2)
      (repeat ((conv => whnf); (first | refine zo0 ?_ | refine zo1 ?_ | refine br_z ?_ | refine br_o ?_ | refine br_zn ?_ | refine br_on ?_ | refine nz2 ?_ | refine nz6 ?_ | refine nz32 ?_ | refine And.intro (by assumption) ?_))); (conv => whnf)
      refine ⟨fun h2 => ?_, fun h2 => ?_⟩
      rotate_left
      · (repeat ((conv => whnf); (first | refine zo0 ?_ | refine zo1 ?_ | refine br_z ?_ | refine br_o ?_ | refine br_zn ?_ | refine br_on ?_ | refine nz2 ?_ | refine nz6 ?_ | refine nz32 ?_ | refine And.intro (by assumption) ?_))); (conv => whnf)
        exact kb (fun q => rn2 h2 q.2)
      have hy : 0 ≤ y ∧ y ≤ 255 := ⟨Int32.not_lt.mp h1, h2⟩
      (repeat ((conv => whnf); (first | refine zo0 ?_ | refine zo1 ?_ | refine br_z ?_ | refine br_o ?_ | refine br_zn ?_ | refine br_on ?_ | refine nz2 ?_ | refine nz6 ?_ | refine nz32 ?_ | refine And.intro (by assumption) ?_))); (conv => whnf)
      rw [q4]
      refine ⟨fun h3 => absurd h3 (nI_pos (by omega)), fun h3 => ?_⟩
      (repeat ((conv => whnf); (first | refine zo0 ?_ | refine zo1 ?_ | refine br_z ?_ | refine br_o ?_ | refine br_zn ?_ | refine br_on ?_ | refine nz2 ?_ | refine nz6 ?_ | refine nz32 ?_ | refine And.intro (by assumption) ?_))); (conv => whnf)
      rw [q4, q1, nI_leI (by omega) (by omega)]
      refine ⟨fun h4 => ?_, fun h4 => ?_⟩
      · (repeat ((conv => whnf); (first | refine zo0 ?_ | refine zo1 ?_ | refine br_z ?_ | refine br_o ?_ | refine br_zn ?_ | refine br_on ?_ | refine nz2 ?_ | refine nz6 ?_ | refine nz32 ?_ | refine And.intro (by assumption) ?_))); (conv => whnf)
        refine ⟨fun _ => ?_, fun q => absurd rfl q⟩
        (repeat ((conv => whnf); (first | refine zo0 ?_ | refine zo1 ?_ | refine br_z ?_ | refine br_o ?_ | refine br_zn ?_ | refine br_on ?_ | refine nz2 ?_ | refine nz6 ?_ | refine nz32 ?_ | refine And.intro (by assumption) ?_))); (conv => whnf)
        have k := hK D L fc_rf
        unfold gType qType at k
        rw [if_pos hx, if_pos hx, if_pos hy, if_pos hy, cN_1, if_pos (by omega), if_pos (by omega)] at k
        exact k hi
      have in24 : vp_in (D 3 4) 24 := by rw [q4]; exact vp_in_nI (by omega) (by decide)
      have cn : (D 3 4).toNatClampNeg = vn v 0 1 := by rw [q4]; exact nI_clamp (by omega)
      (repeat ((conv => whnf); (first | refine zo0 ?_ | refine zo1 ?_ | refine br_z ?_ | refine br_o ?_ | refine br_zn ?_ | refine br_on ?_ | refine nz2 ?_ | refine nz6 ?_ | refine nz32 ?_ | refine And.intro (by assumption) ?_))); (conv => whnf)
      refine ⟨fun h5 => ?_, fun h5 => absurd (by rw [q4]; exact nI_lt (b := 24) (by omega) (by omega)) h5⟩
      (repeat ((conv => whnf); (first | refine zo0 ?_ | refine zo1 ?_ | refine br_z ?_ | refine br_o ?_ | refine br_zn ?_ | refine br_on ?_ | refine nz2 ?_ | refine nz6 ?_ | refine nz32 ?_ | refine And.intro (by assumption) ?_))); (conv => whnf)
      rw [cn, am_up_ne (show (3 : Nat) ≠ 4 by decide), q4, nI_1, ap_s]
      refine ⟨fun q => absurd q (nI_m4 _ (by omega)), fun _ => ?_⟩
      obtain ⟨bb, hb, eb⟩ := rg_nI (n := 255) (by decide) hy
      have it1 : it (am_up (am_up D 4 (vn v 0 1) y) 3 4 (nI (vn v 0 1 + 1))) (am_up (am_up v 1 (24 * 1 + vn v 0 1) y) 0 1 (nI (vn v 0 1 + 1))) := it_len (t := 1) (it_byte (t := 1) (by omega) hi.1.1)
      have vk : vok (am_up (am_up v 1 (24 * 1 + vn v 0 1) y) 0 1 (nI (vn v 0 1 + 1))) := vok_lenu (by rw [eb]; exact vok_byteu hv hb) (by decide) (by omega)
      (repeat ((conv => whnf); (first | refine zo0 ?_ | refine zo1 ?_ | refine br_z ?_ | refine br_o ?_ | refine br_zn ?_ | refine br_on ?_ | refine nz2 ?_ | refine nz6 ?_ | refine nz32 ?_ | refine And.intro (by assumption) ?_))); (conv => whnf)
      refine ⟨_, vk, it1, fun D2 f2 c2 e3 e15 e17 => ?_⟩
      obtain ⟨ix2, fc2⟩ := ix_hear hi (fun k hk => by rw [am_up_ne (by omega), am_up_ne (by omega)]) (fun i h3 => by rw [ap, if_pos rfl, if_neg (by omega), am_up_ne (by decide)]) (fun c hc => by rw [am_up_ne (by omega), am_up_ne (by omega)]) it1 f2 c2 e3 e15 e17
      (repeat ((conv => whnf); (first | refine zo0 ?_ | refine zo1 ?_ | refine br_z ?_ | refine br_o ?_ | refine br_zn ?_ | refine br_on ?_ | refine nz2 ?_ | refine nz6 ?_ | refine nz32 ?_ | refine And.intro (by assumption) ?_))); (conv => whnf)
      have k := hK D2 L fc2
      unfold gType qType at k
      rw [if_pos hx, if_pos hx, if_pos hy, if_pos hy, cN_1, if_neg (by omega), if_neg (by omega)] at k
      exact k ix2
    · subst ex
      obtain ⟨t1, t2, t3, t4, t5⟩ := hi.1.1 2 (by decide)
      obtain ⟨e0, e1⟩ := vok_len hv (show 2 < 3 by decide)
      have q1 : D 5 1 = nI (vcap 2) := t1
      have q4 : D 5 4 = nI (vn v 0 2) := t4.trans e0
      have l2 : vcap 2 ≤ 24 := vcap_le 2
      have hx : (0 : Int32) ≤ 2 ∧ (2 : Int32) ≤ 2 := by decide
      (repeat ((conv => whnf); (first | refine zo0 ?_ | refine zo1 ?_ | refine br_z ?_ | refine br_o ?_ | refine br_zn ?_ | refine br_on ?_ | refine nz2 ?_ | refine nz6 ?_ | refine nz32 ?_ | refine And.intro (by assumption) ?_))); (conv => whnf)
      refine ⟨fun h1 => ?_, fun h1 => ?_⟩
      · (repeat ((conv => whnf); (first | refine zo0 ?_ | refine zo1 ?_ | refine br_z ?_ | refine br_o ?_ | refine br_zn ?_ | refine br_on ?_ | refine nz2 ?_ | refine nz6 ?_ | refine nz32 ?_ | refine And.intro (by assumption) ?_))); (conv => whnf)
        exact kb (fun q => rn0 h1 q.2)
      (repeat ((conv => whnf); (first | refine zo0 ?_ | refine zo1 ?_ | refine br_z ?_ | refine br_o ?_ | refine br_zn ?_ | refine br_on ?_ | refine nz2 ?_ | refine nz6 ?_ | refine nz32 ?_ | refine And.intro (by assumption) ?_))); (conv => whnf)
      refine ⟨fun h2 => ?_, fun h2 => ?_⟩
      rotate_left
      · (repeat ((conv => whnf); (first | refine zo0 ?_ | refine zo1 ?_ | refine br_z ?_ | refine br_o ?_ | refine br_zn ?_ | refine br_on ?_ | refine nz2 ?_ | refine nz6 ?_ | refine nz32 ?_ | refine And.intro (by assumption) ?_))); (conv => whnf)
        exact kb (fun q => rn2 h2 q.2)
      have hy : 0 ≤ y ∧ y ≤ 255 := ⟨Int32.not_lt.mp h1, h2⟩
      (repeat ((conv => whnf); (first | refine zo0 ?_ | refine zo1 ?_ | refine br_z ?_ | refine br_o ?_ | refine br_zn ?_ | refine br_on ?_ | refine nz2 ?_ | refine nz6 ?_ | refine nz32 ?_ | refine And.intro (by assumption) ?_))); (conv => whnf)
      rw [q4]
      refine ⟨fun h3 => absurd h3 (nI_pos (by omega)), fun h3 => ?_⟩
      (repeat ((conv => whnf); (first | refine zo0 ?_ | refine zo1 ?_ | refine br_z ?_ | refine br_o ?_ | refine br_zn ?_ | refine br_on ?_ | refine nz2 ?_ | refine nz6 ?_ | refine nz32 ?_ | refine And.intro (by assumption) ?_))); (conv => whnf)
      rw [q4, q1, nI_leI (by omega) (by omega)]
      refine ⟨fun h4 => ?_, fun h4 => ?_⟩
      · (repeat ((conv => whnf); (first | refine zo0 ?_ | refine zo1 ?_ | refine br_z ?_ | refine br_o ?_ | refine br_zn ?_ | refine br_on ?_ | refine nz2 ?_ | refine nz6 ?_ | refine nz32 ?_ | refine And.intro (by assumption) ?_))); (conv => whnf)
        refine ⟨fun _ => ?_, fun q => absurd rfl q⟩
        (repeat ((conv => whnf); (first | refine zo0 ?_ | refine zo1 ?_ | refine br_z ?_ | refine br_o ?_ | refine br_zn ?_ | refine br_on ?_ | refine nz2 ?_ | refine nz6 ?_ | refine nz32 ?_ | refine And.intro (by assumption) ?_))); (conv => whnf)
        have k := hK D L fc_rf
        unfold gType qType at k
        rw [if_pos hx, if_pos hx, if_pos hy, if_pos hy, cN_2, if_pos (by omega), if_pos (by omega)] at k
        exact k hi
      have in24 : vp_in (D 5 4) 24 := by rw [q4]; exact vp_in_nI (by omega) (by decide)
      have cn : (D 5 4).toNatClampNeg = vn v 0 2 := by rw [q4]; exact nI_clamp (by omega)
      (repeat ((conv => whnf); (first | refine zo0 ?_ | refine zo1 ?_ | refine br_z ?_ | refine br_o ?_ | refine br_zn ?_ | refine br_on ?_ | refine nz2 ?_ | refine nz6 ?_ | refine nz32 ?_ | refine And.intro (by assumption) ?_))); (conv => whnf)
      refine ⟨fun h5 => ?_, fun h5 => absurd (by rw [q4]; exact nI_lt (b := 24) (by omega) (by omega)) h5⟩
      (repeat ((conv => whnf); (first | refine zo0 ?_ | refine zo1 ?_ | refine br_z ?_ | refine br_o ?_ | refine br_zn ?_ | refine br_on ?_ | refine nz2 ?_ | refine nz6 ?_ | refine nz32 ?_ | refine And.intro (by assumption) ?_))); (conv => whnf)
      rw [cn, am_up_ne (show (5 : Nat) ≠ 6 by decide), q4, nI_1, ap_s]
      refine ⟨fun q => absurd q (nI_m4 _ (by omega)), fun _ => ?_⟩
      obtain ⟨bb, hb, eb⟩ := rg_nI (n := 255) (by decide) hy
      have it1 : it (am_up (am_up D 6 (vn v 0 2) y) 5 4 (nI (vn v 0 2 + 1))) (am_up (am_up v 1 (24 * 2 + vn v 0 2) y) 0 2 (nI (vn v 0 2 + 1))) := it_len (t := 2) (it_byte (t := 2) (by omega) hi.1.1)
      have vk : vok (am_up (am_up v 1 (24 * 2 + vn v 0 2) y) 0 2 (nI (vn v 0 2 + 1))) := vok_lenu (by rw [eb]; exact vok_byteu hv hb) (by decide) (by omega)
      (repeat ((conv => whnf); (first | refine zo0 ?_ | refine zo1 ?_ | refine br_z ?_ | refine br_o ?_ | refine br_zn ?_ | refine br_on ?_ | refine nz2 ?_ | refine nz6 ?_ | refine nz32 ?_ | refine And.intro (by assumption) ?_))); (conv => whnf)
      refine ⟨_, vk, it1, fun D2 f2 c2 e3 e15 e17 => ?_⟩
      obtain ⟨ix2, fc2⟩ := ix_hear hi (fun k hk => by rw [am_up_ne (by omega), am_up_ne (by omega)]) (fun i h3 => by rw [ap, if_pos rfl, if_neg (by omega), am_up_ne (by decide)]) (fun c hc => by rw [am_up_ne (by omega), am_up_ne (by omega)]) it1 f2 c2 e3 e15 e17
      (repeat ((conv => whnf); (first | refine zo0 ?_ | refine zo1 ?_ | refine br_z ?_ | refine br_o ?_ | refine br_zn ?_ | refine br_on ?_ | refine nz2 ?_ | refine nz6 ?_ | refine nz32 ?_ | refine And.intro (by assumption) ?_))); (conv => whnf)
      have k := hK D2 L fc2
      unfold gType qType at k
      rw [if_pos hx, if_pos hx, if_pos hy, if_pos hy, cN_2, if_neg (by omega), if_neg (by omega)] at k
      exact k ix2
    · (repeat ((conv => whnf); (first | refine zo0 ?_ | refine zo1 ?_ | refine br_z ?_ | refine br_o ?_ | refine br_zn ?_ | refine br_on ?_ | refine nz2 ?_ | refine nz6 ?_ | refine nz32 ?_ | refine And.intro (by assumption) ?_))); (conv => whnf)
      exact kb (fun q => ex q.1)
  · exact absurd h id
theorem clX_type (l : Launch) : ∀ (a : Nat) (ins : Instr) (b dd : Nat), csX_type[a]? = some (ins, b, dd) → am_Call l yX_type.cls 3 ins b dd (fnX_type a) := by
  intro a ins b dd h
  match a, h with
  | 0, h => cases h; exact am_callV (T := F_10) (N := 17) (okX_textOf l) wcX_textOf (am_m2 (i := 150) rfl rfl) wiX_textOf wsX_textOf inX rfl (by decide) (by decide +kernel) (by decide) (by decide)
  | 1, h => cases h; exact am_callV (T := F_8) (N := 5) (okT_add l) wcT_add (am_m2 (i := 154) rfl rfl) wiT_add wsT_add inT rfl (by decide) (by decide +kernel) (by decide) (by decide)
  | 2, h => cases h; exact am_callV (T := F_10) (N := 17) (okX_hearTexts l) wcX_hearTexts (am_m2 (i := 158) rfl rfl) wiX_hearTexts wsX_hearTexts inX rfl (by decide) (by decide +kernel) (by decide) (by decide)
  | k + 3, h => simp [csX_type] at h
theorem okX_type (l : Launch) : am_Ok l yX_type prog_1_method_2_code 5 (some .int) 3 spX_type := am_ok_of (by decide +kernel) flX_ok kiX_ok klX_ok ckX_type (clX_type l) wpX_type
def fnX_wipe : Nat → am_Sp := fun a => match a with
  | 0 => spX_textOf
  | 1 => spT_clear
  | 2 => spX_hearTexts
  | _ => am_no
theorem mfX_wipe : ∀ a, am_mono (fnX_wipe a) := fun a => match a with
  | 0 => moX_textOf
  | 1 => moT_clear
  | 2 => moX_hearTexts
  | _ + 3 => am_no_mono
def spX_wipe : am_Sp := fun as D L K => match as with
  | [.ref 0, .int x] => ∃ v : vs_T, vok v ∧ ix D v ∧ ∀ (D' : am_D) (L' : am_L), fc D D' → ix D' (gWipe v x) → K (some (.int (qWipe v x))) D' L'
  | _ => False
theorem moX_wipe : am_mono spX_wipe := by
  intro as D L K K' hK h
  unfold spX_wipe at h ⊢
  split at h
  · obtain ⟨z0, z1, z2, hz⟩ := h
    exact ⟨z0, z1, z2, fun D' L' q1 q2 => hK _ _ _ (hz D' L' q1 q2)⟩
  · exact h
theorem wpX_wipe : ∀ (as : List Value) (D : am_D) (L : am_L) (K : am_K), spX_wipe as D L K → am_fit 4 as = true ∧ am_Wp false 0 cdX_wipe fnX_wipe K 0 (am_lo 4 as) [] D L := by
  intro as D L K h
  unfold spX_wipe at h
  split at h
  · rename_i x
    obtain ⟨v, hv, hi, hK⟩ := h
    have kb : ¬ ((0 ≤ x ∧ x ≤ 2)) → K (some (.int (-2))) D L := fun q => by
      have k := hK D L fc_rf
      unfold qWipe gWipe at k
      by_cases c0 : (0 ≤ x ∧ x ≤ 2)
      · exact absurd c0 q
      · rw [if_neg c0, if_neg c0] at k
        exact k hi
    refine ⟨rfl, am_Wp_bl mfX_wipe [] 90 _ _ _ _ _ ?_⟩
    (repeat ((conv => whnf); (first | refine zo0 ?_ | refine zo1 ?_ | refine br_z ?_ | refine br_o ?_ | refine br_zn ?_ | refine br_on ?_ | refine nz2 ?_ | refine nz6 ?_ | refine nz32 ?_ | refine And.intro (by assumption) ?_))); (conv => whnf)
    refine ⟨fun ex => ?_, fun ex => ?_, fun ex => ?_, fun ex => ?_⟩
    · subst ex
      obtain ⟨t1, t2, t3, t4, t5⟩ := hi.1.1 0 (by decide)
      have q4 : D 1 4 = v 0 0 := t4
      have hx : (0 : Int32) ≤ 0 ∧ (0 : Int32) ≤ 2 := by decide
      have it1 : it (am_up D 1 4 0) (am_up v 0 0 0) := it_len (t := 0) hi.1.1
      have vk : vok (am_up v 0 0 0) := vok_lenu (n := 0) hv (by decide) (by omega)
      (repeat ((conv => whnf); (first | refine zo0 ?_ | refine zo1 ?_ | refine br_z ?_ | refine br_o ?_ | refine br_zn ?_ | refine br_on ?_ | refine nz2 ?_ | refine nz6 ?_ | refine nz32 ?_ | refine And.intro (by assumption) ?_))); (conv => whnf)
      refine ⟨_, vk, it1, fun D2 f2 c2 e3 e15 e17 => ?_⟩
      obtain ⟨ix2, fc2⟩ := ix_hear hi (fun k hk => by rw [am_up_ne (by omega)]) (fun i h3 => by rw [ap, if_pos rfl, if_neg (by omega)]) (fun c hc => by rw [am_up_ne (by omega)]) it1 f2 c2 e3 e15 e17
      (repeat ((conv => whnf); (first | refine zo0 ?_ | refine zo1 ?_ | refine br_z ?_ | refine br_o ?_ | refine br_zn ?_ | refine br_on ?_ | refine nz2 ?_ | refine nz6 ?_ | refine nz32 ?_ | refine And.intro (by assumption) ?_))); (conv => whnf)
      rw [q4]
      have k := hK D2 L fc2
      unfold gWipe qWipe at k
      rw [if_pos hx, if_pos hx, cN_0] at k
      exact k ix2
    · subst ex
      obtain ⟨t1, t2, t3, t4, t5⟩ := hi.1.1 1 (by decide)
      have q4 : D 3 4 = v 0 1 := t4
      have hx : (0 : Int32) ≤ 1 ∧ (1 : Int32) ≤ 2 := by decide
      have it1 : it (am_up D 3 4 0) (am_up v 0 1 0) := it_len (t := 1) hi.1.1
      have vk : vok (am_up v 0 1 0) := vok_lenu (n := 0) hv (by decide) (by omega)
      (repeat ((conv => whnf); (first | refine zo0 ?_ | refine zo1 ?_ | refine br_z ?_ | refine br_o ?_ | refine br_zn ?_ | refine br_on ?_ | refine nz2 ?_ | refine nz6 ?_ | refine nz32 ?_ | refine And.intro (by assumption) ?_))); (conv => whnf)
      refine ⟨_, vk, it1, fun D2 f2 c2 e3 e15 e17 => ?_⟩
      obtain ⟨ix2, fc2⟩ := ix_hear hi (fun k hk => by rw [am_up_ne (by omega)]) (fun i h3 => by rw [ap, if_pos rfl, if_neg (by omega)]) (fun c hc => by rw [am_up_ne (by omega)]) it1 f2 c2 e3 e15 e17
      (repeat ((conv => whnf); (first | refine zo0 ?_ | refine zo1 ?_ | refine br_z ?_ | refine br_o ?_ | refine br_zn ?_ | refine br_on ?_ | refine nz2 ?_ | refine nz6 ?_ | refine nz32 ?_ | refine And.intro (by assumption) ?_))); (conv => whnf)
      rw [q4]
      have k := hK D2 L fc2
      unfold gWipe qWipe at k
      rw [if_pos hx, if_pos hx, cN_1] at k
      exact k ix2
    · subst ex
      obtain ⟨t1, t2, t3, t4, t5⟩ := hi.1.1 2 (by decide)
      have q4 : D 5 4 = v 0 2 := t4
      have hx : (0 : Int32) ≤ 2 ∧ (2 : Int32) ≤ 2 := by decide
      have it1 : it (am_up D 5 4 0) (am_up v 0 2 0) := it_len (t := 2) hi.1.1
      have vk : vok (am_up v 0 2 0) := vok_lenu (n := 0) hv (by decide) (by omega)
      (repeat ((conv => whnf); (first | refine zo0 ?_ | refine zo1 ?_ | refine br_z ?_ | refine br_o ?_ | refine br_zn ?_ | refine br_on ?_ | refine nz2 ?_ | refine nz6 ?_ | refine nz32 ?_ | refine And.intro (by assumption) ?_))); (conv => whnf)
      refine ⟨_, vk, it1, fun D2 f2 c2 e3 e15 e17 => ?_⟩
      obtain ⟨ix2, fc2⟩ := ix_hear hi (fun k hk => by rw [am_up_ne (by omega)]) (fun i h3 => by rw [ap, if_pos rfl, if_neg (by omega)]) (fun c hc => by rw [am_up_ne (by omega)]) it1 f2 c2 e3 e15 e17
      (repeat ((conv => whnf); (first | refine zo0 ?_ | refine zo1 ?_ | refine br_z ?_ | refine br_o ?_ | refine br_zn ?_ | refine br_on ?_ | refine nz2 ?_ | refine nz6 ?_ | refine nz32 ?_ | refine And.intro (by assumption) ?_))); (conv => whnf)
      rw [q4]
      have k := hK D2 L fc2
      unfold gWipe qWipe at k
      rw [if_pos hx, if_pos hx, cN_2] at k
      exact k ix2
    · (repeat ((conv => whnf); (first | refine zo0 ?_ | refine zo1 ?_ | refine br_z ?_ | refine br_o ?_ | refine br_zn ?_ | refine br_on ?_ | refine nz2 ?_ | refine nz6 ?_ | refine nz32 ?_ | refine And.intro (by assumption) ?_))); (conv => whnf)
      exact kb ex
  · exact absurd h id
theorem clX_wipe (l : Launch) : ∀ (a : Nat) (ins : Instr) (b dd : Nat), csX_wipe[a]? = some (ins, b, dd) → am_Call l yX_wipe.cls 3 ins b dd (fnX_wipe a) := by
  intro a ins b dd h
  match a, h with
  | 0, h => cases h; exact am_callV (T := F_10) (N := 17) (okX_textOf l) wcX_textOf (am_m2 (i := 150) rfl rfl) wiX_textOf wsX_textOf inX rfl (by decide) (by decide +kernel) (by decide) (by decide)
  | 1, h => cases h; exact am_callV (T := F_8) (N := 5) (okT_clear l) wcT_clear (am_m2 (i := 178) rfl rfl) wiT_clear wsT_clear inT rfl (by decide) (by decide +kernel) (by decide) (by decide)
  | 2, h => cases h; exact am_callV (T := F_10) (N := 17) (okX_hearTexts l) wcX_hearTexts (am_m2 (i := 158) rfl rfl) wiX_hearTexts wsX_hearTexts inX rfl (by decide) (by decide +kernel) (by decide) (by decide)
  | k + 3, h => simp [csX_wipe] at h
theorem okX_wipe (l : Launch) : am_Ok l yX_wipe prog_1_method_3_code 4 (some .int) 3 spX_wipe := am_ok_of (by decide +kernel) flX_ok kiX_ok klX_ok ckX_wipe (clX_wipe l) wpX_wipe
def fnX_undo : Nat → am_Sp := fun a => match a with
  | 0 => spX_textOf
  | 1 => spT_drop
  | 2 => spX_hearTexts
  | _ => am_no
theorem mfX_undo : ∀ a, am_mono (fnX_undo a) := fun a => match a with
  | 0 => moX_textOf
  | 1 => moT_drop
  | 2 => moX_hearTexts
  | _ + 3 => am_no_mono
def spX_undo : am_Sp := fun as D L K => match as with
  | [.ref 0, .int x] => ∃ v : vs_T, vok v ∧ ix D v ∧ ∀ (D' : am_D) (L' : am_L), fc D D' → ix D' (gUndo v x) → K (some (.int (qUndo v x))) D' L'
  | _ => False
theorem moX_undo : am_mono spX_undo := by
  intro as D L K K' hK h
  unfold spX_undo at h ⊢
  split at h
  · obtain ⟨z0, z1, z2, hz⟩ := h
    exact ⟨z0, z1, z2, fun D' L' q1 q2 => hK _ _ _ (hz D' L' q1 q2)⟩
  · exact h
theorem wpX_undo : ∀ (as : List Value) (D : am_D) (L : am_L) (K : am_K), spX_undo as D L K → am_fit 4 as = true ∧ am_Wp false 0 cdX_undo fnX_undo K 0 (am_lo 4 as) [] D L := by
  intro as D L K h
  unfold spX_undo at h
  split at h
  · rename_i x
    obtain ⟨v, hv, hi, hK⟩ := h
    have kb : ¬ ((0 ≤ x ∧ x ≤ 2)) → K (some (.int (-2))) D L := fun q => by
      have k := hK D L fc_rf
      unfold qUndo gUndo at k
      by_cases c0 : (0 ≤ x ∧ x ≤ 2)
      · exact absurd c0 q
      · rw [if_neg c0, if_neg c0] at k
        exact k hi
    refine ⟨rfl, am_Wp_bl mfX_undo [] 90 _ _ _ _ _ ?_⟩
    (repeat ((conv => whnf); (first | refine zo0 ?_ | refine zo1 ?_ | refine br_z ?_ | refine br_o ?_ | refine br_zn ?_ | refine br_on ?_ | refine nz2 ?_ | refine nz6 ?_ | refine nz32 ?_ | refine And.intro (by assumption) ?_))); (conv => whnf)
    refine ⟨fun ex => ?_, fun ex => ?_, fun ex => ?_, fun ex => ?_⟩
    · subst ex
      obtain ⟨t1, t2, t3, t4, t5⟩ := hi.1.1 0 (by decide)
      obtain ⟨e0, e1⟩ := vok_len hv (show 0 < 3 by decide)
      have q4 : D 1 4 = nI (vn v 0 0) := t4.trans e0
      have l2 : vcap 0 ≤ 24 := vcap_le 0
      have hx : (0 : Int32) ≤ 0 ∧ (0 : Int32) ≤ 2 := by decide
      (repeat ((conv => whnf); (first | refine zo0 ?_ | refine zo1 ?_ | refine br_z ?_ | refine br_o ?_ | refine br_zn ?_ | refine br_on ?_ | refine nz2 ?_ | refine nz6 ?_ | refine nz32 ?_ | refine And.intro (by assumption) ?_))); (conv => whnf)
      rw [q4]
      refine ⟨fun h1 => ?_, fun h1 => ?_⟩
      rotate_left
      · have h2 : vn v 0 0 = 0 := by
          apply Decidable.byContradiction
          intro q
          exact h1 (by rw [nle_lt]; exact nI_nle (by omega) (by omega))
        (repeat ((conv => whnf); (first | refine zo0 ?_ | refine zo1 ?_ | refine br_z ?_ | refine br_o ?_ | refine br_zn ?_ | refine br_on ?_ | refine nz2 ?_ | refine nz6 ?_ | refine nz32 ?_ | refine And.intro (by assumption) ?_))); (conv => whnf)
        refine ⟨fun _ => ?_, fun q => absurd rfl q⟩
        (repeat ((conv => whnf); (first | refine zo0 ?_ | refine zo1 ?_ | refine br_z ?_ | refine br_o ?_ | refine br_zn ?_ | refine br_on ?_ | refine nz2 ?_ | refine nz6 ?_ | refine nz32 ?_ | refine And.intro (by assumption) ?_))); (conv => whnf)
        have k := hK D L fc_rf
        unfold gUndo qUndo at k
        rw [if_pos hx, if_pos hx, cN_0, if_pos h2, if_pos h2] at k
        exact k hi
      have h2 : ¬ vn v 0 0 = 0 := fun q => by
        rw [q, nI_0] at h1
        exact absurd h1 (by decide)
      (repeat ((conv => whnf); (first | refine zo0 ?_ | refine zo1 ?_ | refine br_z ?_ | refine br_o ?_ | refine br_zn ?_ | refine br_on ?_ | refine nz2 ?_ | refine nz6 ?_ | refine nz32 ?_ | refine And.intro (by assumption) ?_))); (conv => whnf)
      rw [q4, nI_sub1 (by omega), ap_s]
      refine ⟨fun q => absurd q (nI_m3 _ (by omega)), fun _ => ?_⟩
      have it1 : it (am_up D 1 4 (nI (vn v 0 0 - 1))) (am_up v 0 0 (nI (vn v 0 0 - 1))) := it_len (t := 0) hi.1.1
      have vk : vok (am_up v 0 0 (nI (vn v 0 0 - 1))) := vok_lenu hv (by decide) (by omega)
      (repeat ((conv => whnf); (first | refine zo0 ?_ | refine zo1 ?_ | refine br_z ?_ | refine br_o ?_ | refine br_zn ?_ | refine br_on ?_ | refine nz2 ?_ | refine nz6 ?_ | refine nz32 ?_ | refine And.intro (by assumption) ?_))); (conv => whnf)
      refine ⟨_, vk, it1, fun D2 f2 c2 e3 e15 e17 => ?_⟩
      obtain ⟨ix2, fc2⟩ := ix_hear hi (fun k hk => by rw [am_up_ne (by omega)]) (fun i h3 => by rw [ap, if_pos rfl, if_neg (by omega)]) (fun c hc => by rw [am_up_ne (by omega)]) it1 f2 c2 e3 e15 e17
      (repeat ((conv => whnf); (first | refine zo0 ?_ | refine zo1 ?_ | refine br_z ?_ | refine br_o ?_ | refine br_zn ?_ | refine br_on ?_ | refine nz2 ?_ | refine nz6 ?_ | refine nz32 ?_ | refine And.intro (by assumption) ?_))); (conv => whnf)
      have k := hK D2 L fc2
      unfold gUndo qUndo at k
      rw [if_pos hx, if_pos hx, cN_0, if_neg h2, if_neg h2] at k
      exact k ix2
    · subst ex
      obtain ⟨t1, t2, t3, t4, t5⟩ := hi.1.1 1 (by decide)
      obtain ⟨e0, e1⟩ := vok_len hv (show 1 < 3 by decide)
      have q4 : D 3 4 = nI (vn v 0 1) := t4.trans e0
      have l2 : vcap 1 ≤ 24 := vcap_le 1
      have hx : (0 : Int32) ≤ 1 ∧ (1 : Int32) ≤ 2 := by decide
      (repeat ((conv => whnf); (first | refine zo0 ?_ | refine zo1 ?_ | refine br_z ?_ | refine br_o ?_ | refine br_zn ?_ | refine br_on ?_ | refine nz2 ?_ | refine nz6 ?_ | refine nz32 ?_ | refine And.intro (by assumption) ?_))); (conv => whnf)
      rw [q4]
      refine ⟨fun h1 => ?_, fun h1 => ?_⟩
      rotate_left
      · have h2 : vn v 0 1 = 0 := by
          apply Decidable.byContradiction
          intro q
          exact h1 (by rw [nle_lt]; exact nI_nle (by omega) (by omega))
        (repeat ((conv => whnf); (first | refine zo0 ?_ | refine zo1 ?_ | refine br_z ?_ | refine br_o ?_ | refine br_zn ?_ | refine br_on ?_ | refine nz2 ?_ | refine nz6 ?_ | refine nz32 ?_ | refine And.intro (by assumption) ?_))); (conv => whnf)
        refine ⟨fun _ => ?_, fun q => absurd rfl q⟩
        (repeat ((conv => whnf); (first | refine zo0 ?_ | refine zo1 ?_ | refine br_z ?_ | refine br_o ?_ | refine br_zn ?_ | refine br_on ?_ | refine nz2 ?_ | refine nz6 ?_ | refine nz32 ?_ | refine And.intro (by assumption) ?_))); (conv => whnf)
        have k := hK D L fc_rf
        unfold gUndo qUndo at k
        rw [if_pos hx, if_pos hx, cN_1, if_pos h2, if_pos h2] at k
        exact k hi
      have h2 : ¬ vn v 0 1 = 0 := fun q => by
        rw [q, nI_0] at h1
        exact absurd h1 (by decide)
      (repeat ((conv => whnf); (first | refine zo0 ?_ | refine zo1 ?_ | refine br_z ?_ | refine br_o ?_ | refine br_zn ?_ | refine br_on ?_ | refine nz2 ?_ | refine nz6 ?_ | refine nz32 ?_ | refine And.intro (by assumption) ?_))); (conv => whnf)
      rw [q4, nI_sub1 (by omega), ap_s]
      refine ⟨fun q => absurd q (nI_m3 _ (by omega)), fun _ => ?_⟩
      have it1 : it (am_up D 3 4 (nI (vn v 0 1 - 1))) (am_up v 0 1 (nI (vn v 0 1 - 1))) := it_len (t := 1) hi.1.1
      have vk : vok (am_up v 0 1 (nI (vn v 0 1 - 1))) := vok_lenu hv (by decide) (by omega)
      (repeat ((conv => whnf); (first | refine zo0 ?_ | refine zo1 ?_ | refine br_z ?_ | refine br_o ?_ | refine br_zn ?_ | refine br_on ?_ | refine nz2 ?_ | refine nz6 ?_ | refine nz32 ?_ | refine And.intro (by assumption) ?_))); (conv => whnf)
      refine ⟨_, vk, it1, fun D2 f2 c2 e3 e15 e17 => ?_⟩
      obtain ⟨ix2, fc2⟩ := ix_hear hi (fun k hk => by rw [am_up_ne (by omega)]) (fun i h3 => by rw [ap, if_pos rfl, if_neg (by omega)]) (fun c hc => by rw [am_up_ne (by omega)]) it1 f2 c2 e3 e15 e17
      (repeat ((conv => whnf); (first | refine zo0 ?_ | refine zo1 ?_ | refine br_z ?_ | refine br_o ?_ | refine br_zn ?_ | refine br_on ?_ | refine nz2 ?_ | refine nz6 ?_ | refine nz32 ?_ | refine And.intro (by assumption) ?_))); (conv => whnf)
      have k := hK D2 L fc2
      unfold gUndo qUndo at k
      rw [if_pos hx, if_pos hx, cN_1, if_neg h2, if_neg h2] at k
      exact k ix2
    · subst ex
      obtain ⟨t1, t2, t3, t4, t5⟩ := hi.1.1 2 (by decide)
      obtain ⟨e0, e1⟩ := vok_len hv (show 2 < 3 by decide)
      have q4 : D 5 4 = nI (vn v 0 2) := t4.trans e0
      have l2 : vcap 2 ≤ 24 := vcap_le 2
      have hx : (0 : Int32) ≤ 2 ∧ (2 : Int32) ≤ 2 := by decide
      (repeat ((conv => whnf); (first | refine zo0 ?_ | refine zo1 ?_ | refine br_z ?_ | refine br_o ?_ | refine br_zn ?_ | refine br_on ?_ | refine nz2 ?_ | refine nz6 ?_ | refine nz32 ?_ | refine And.intro (by assumption) ?_))); (conv => whnf)
      rw [q4]
      refine ⟨fun h1 => ?_, fun h1 => ?_⟩
      rotate_left
      · have h2 : vn v 0 2 = 0 := by
          apply Decidable.byContradiction
          intro q
          exact h1 (by rw [nle_lt]; exact nI_nle (by omega) (by omega))
        (repeat ((conv => whnf); (first | refine zo0 ?_ | refine zo1 ?_ | refine br_z ?_ | refine br_o ?_ | refine br_zn ?_ | refine br_on ?_ | refine nz2 ?_ | refine nz6 ?_ | refine nz32 ?_ | refine And.intro (by assumption) ?_))); (conv => whnf)
        refine ⟨fun _ => ?_, fun q => absurd rfl q⟩
        (repeat ((conv => whnf); (first | refine zo0 ?_ | refine zo1 ?_ | refine br_z ?_ | refine br_o ?_ | refine br_zn ?_ | refine br_on ?_ | refine nz2 ?_ | refine nz6 ?_ | refine nz32 ?_ | refine And.intro (by assumption) ?_))); (conv => whnf)
        have k := hK D L fc_rf
        unfold gUndo qUndo at k
        rw [if_pos hx, if_pos hx, cN_2, if_pos h2, if_pos h2] at k
        exact k hi
      have h2 : ¬ vn v 0 2 = 0 := fun q => by
        rw [q, nI_0] at h1
        exact absurd h1 (by decide)
      (repeat ((conv => whnf); (first | refine zo0 ?_ | refine zo1 ?_ | refine br_z ?_ | refine br_o ?_ | refine br_zn ?_ | refine br_on ?_ | refine nz2 ?_ | refine nz6 ?_ | refine nz32 ?_ | refine And.intro (by assumption) ?_))); (conv => whnf)
      rw [q4, nI_sub1 (by omega), ap_s]
      refine ⟨fun q => absurd q (nI_m3 _ (by omega)), fun _ => ?_⟩
      have it1 : it (am_up D 5 4 (nI (vn v 0 2 - 1))) (am_up v 0 2 (nI (vn v 0 2 - 1))) := it_len (t := 2) hi.1.1
      have vk : vok (am_up v 0 2 (nI (vn v 0 2 - 1))) := vok_lenu hv (by decide) (by omega)
      (repeat ((conv => whnf); (first | refine zo0 ?_ | refine zo1 ?_ | refine br_z ?_ | refine br_o ?_ | refine br_zn ?_ | refine br_on ?_ | refine nz2 ?_ | refine nz6 ?_ | refine nz32 ?_ | refine And.intro (by assumption) ?_))); (conv => whnf)
      refine ⟨_, vk, it1, fun D2 f2 c2 e3 e15 e17 => ?_⟩
      obtain ⟨ix2, fc2⟩ := ix_hear hi (fun k hk => by rw [am_up_ne (by omega)]) (fun i h3 => by rw [ap, if_pos rfl, if_neg (by omega)]) (fun c hc => by rw [am_up_ne (by omega)]) it1 f2 c2 e3 e15 e17
      (repeat ((conv => whnf); (first | refine zo0 ?_ | refine zo1 ?_ | refine br_z ?_ | refine br_o ?_ | refine br_zn ?_ | refine br_on ?_ | refine nz2 ?_ | refine nz6 ?_ | refine nz32 ?_ | refine And.intro (by assumption) ?_))); (conv => whnf)
      have k := hK D2 L fc2
      unfold gUndo qUndo at k
      rw [if_pos hx, if_pos hx, cN_2, if_neg h2, if_neg h2] at k
      exact k ix2
    · (repeat ((conv => whnf); (first | refine zo0 ?_ | refine zo1 ?_ | refine br_z ?_ | refine br_o ?_ | refine br_zn ?_ | refine br_on ?_ | refine nz2 ?_ | refine nz6 ?_ | refine nz32 ?_ | refine And.intro (by assumption) ?_))); (conv => whnf)
      exact kb ex
  · exact absurd h id
theorem clX_undo (l : Launch) : ∀ (a : Nat) (ins : Instr) (b dd : Nat), csX_undo[a]? = some (ins, b, dd) → am_Call l yX_undo.cls 3 ins b dd (fnX_undo a) := by
  intro a ins b dd h
  match a, h with
  | 0, h => cases h; exact am_callV (T := F_10) (N := 17) (okX_textOf l) wcX_textOf (am_m2 (i := 150) rfl rfl) wiX_textOf wsX_textOf inX rfl (by decide) (by decide +kernel) (by decide) (by decide)
  | 1, h => cases h; exact am_callV (T := F_8) (N := 5) (okT_drop l) wcT_drop (am_m2 (i := 186) rfl rfl) wiT_drop wsT_drop inT rfl (by decide) (by decide +kernel) (by decide) (by decide)
  | 2, h => cases h; exact am_callV (T := F_10) (N := 17) (okX_hearTexts l) wcX_hearTexts (am_m2 (i := 158) rfl rfl) wiX_hearTexts wsX_hearTexts inX rfl (by decide) (by decide +kernel) (by decide) (by decide)
  | k + 3, h => simp [csX_undo] at h
theorem okX_undo (l : Launch) : am_Ok l yX_undo prog_1_method_4_code 4 (some .int) 3 spX_undo := am_ok_of (by decide +kernel) flX_ok kiX_ok klX_ok ckX_undo (clX_undo l) wpX_undo
def fnX_fault : Nat → am_Sp := fun a => match a with
  | 0 => spX_textOf
  | 1 => spT_firstFault
  | _ => am_no
theorem mfX_fault : ∀ a, am_mono (fnX_fault a) := fun a => match a with
  | 0 => moX_textOf
  | 1 => moT_firstFault
  | _ + 2 => am_no_mono
def spX_fault : am_Sp := fun as D L K => match as with
  | [.ref 0, .int x] => ∃ v : vs_T, vok v ∧ ix D v ∧ ∀ (D' : am_D) (L' : am_L), fc D D' → ix D' v → K (some (.int (qFault v x))) D' L'
  | _ => False
theorem moX_fault : am_mono spX_fault := by
  intro as D L K K' hK h
  unfold spX_fault at h ⊢
  split at h
  · obtain ⟨z0, z1, z2, hz⟩ := h
    exact ⟨z0, z1, z2, fun D' L' q1 q2 => hK _ _ _ (hz D' L' q1 q2)⟩
  · exact h
theorem wpX_fault : ∀ (as : List Value) (D : am_D) (L : am_L) (K : am_K), spX_fault as D L K → am_fit 3 as = true ∧ am_Wp false 0 cdX_fault fnX_fault K 0 (am_lo 3 as) [] D L := by
  intro as D L K h
  unfold spX_fault at h
  split at h
  · rename_i x
    obtain ⟨v, hv, hi, hK⟩ := h
    have kb : ¬ ((0 ≤ x ∧ x ≤ 2)) → K (some (.int (-2))) D L := fun q => by
      have k := hK D L fc_rf
      unfold qFault at k
      by_cases c0 : (0 ≤ x ∧ x ≤ 2)
      · exact absurd c0 q
      · rw [if_neg c0] at k
        exact k hi
    refine ⟨rfl, am_Wp_bl mfX_fault [] 90 _ _ _ _ _ ?_⟩
    (repeat ((conv => whnf); (first | refine zo0 ?_ | refine zo1 ?_ | refine br_z ?_ | refine br_o ?_ | refine br_zn ?_ | refine br_on ?_ | refine nz2 ?_ | refine nz6 ?_ | refine nz32 ?_ | refine And.intro (by assumption) ?_))); (conv => whnf)
    refine ⟨fun ex => ?_, fun ex => ?_, fun ex => ?_, fun ex => ?_⟩
    · subst ex
      have hx : (0 : Int32) ≤ 0 ∧ (0 : Int32) ≤ 2 := by decide
      (repeat ((conv => whnf); (first | refine zo0 ?_ | refine zo1 ?_ | refine br_z ?_ | refine br_o ?_ | refine br_zn ?_ | refine br_on ?_ | refine nz2 ?_ | refine nz6 ?_ | refine nz32 ?_ | refine And.intro (by assumption) ?_))); (conv => whnf)
      refine ⟨v, 0, hv, hi.1.1, Or.inl ⟨rfl, rfl⟩, ?_⟩
      (repeat ((conv => whnf); (first | refine zo0 ?_ | refine zo1 ?_ | refine br_z ?_ | refine br_o ?_ | refine br_zn ?_ | refine br_on ?_ | refine nz2 ?_ | refine nz6 ?_ | refine nz32 ?_ | refine And.intro (by assumption) ?_))); (conv => whnf)
      have k := hK D L fc_rf hi
      unfold qFault at k
      rw [if_pos hx, cN_0] at k
      exact k
    · subst ex
      have hx : (0 : Int32) ≤ 1 ∧ (1 : Int32) ≤ 2 := by decide
      (repeat ((conv => whnf); (first | refine zo0 ?_ | refine zo1 ?_ | refine br_z ?_ | refine br_o ?_ | refine br_zn ?_ | refine br_on ?_ | refine nz2 ?_ | refine nz6 ?_ | refine nz32 ?_ | refine And.intro (by assumption) ?_))); (conv => whnf)
      refine ⟨v, 1, hv, hi.1.1, Or.inr (Or.inl ⟨rfl, rfl⟩), ?_⟩
      (repeat ((conv => whnf); (first | refine zo0 ?_ | refine zo1 ?_ | refine br_z ?_ | refine br_o ?_ | refine br_zn ?_ | refine br_on ?_ | refine nz2 ?_ | refine nz6 ?_ | refine nz32 ?_ | refine And.intro (by assumption) ?_))); (conv => whnf)
      have k := hK D L fc_rf hi
      unfold qFault at k
      rw [if_pos hx, cN_1] at k
      exact k
    · subst ex
      have hx : (0 : Int32) ≤ 2 ∧ (2 : Int32) ≤ 2 := by decide
      (repeat ((conv => whnf); (first | refine zo0 ?_ | refine zo1 ?_ | refine br_z ?_ | refine br_o ?_ | refine br_zn ?_ | refine br_on ?_ | refine nz2 ?_ | refine nz6 ?_ | refine nz32 ?_ | refine And.intro (by assumption) ?_))); (conv => whnf)
      refine ⟨v, 2, hv, hi.1.1, Or.inr (Or.inr ⟨rfl, rfl⟩), ?_⟩
      (repeat ((conv => whnf); (first | refine zo0 ?_ | refine zo1 ?_ | refine br_z ?_ | refine br_o ?_ | refine br_zn ?_ | refine br_on ?_ | refine nz2 ?_ | refine nz6 ?_ | refine nz32 ?_ | refine And.intro (by assumption) ?_))); (conv => whnf)
      have k := hK D L fc_rf hi
      unfold qFault at k
      rw [if_pos hx, cN_2] at k
      exact k
    · (repeat ((conv => whnf); (first | refine zo0 ?_ | refine zo1 ?_ | refine br_z ?_ | refine br_o ?_ | refine br_zn ?_ | refine br_on ?_ | refine nz2 ?_ | refine nz6 ?_ | refine nz32 ?_ | refine And.intro (by assumption) ?_))); (conv => whnf)
      exact kb ex
  · exact absurd h id
theorem clX_fault (l : Launch) : ∀ (a : Nat) (ins : Instr) (b dd : Nat), csX_fault[a]? = some (ins, b, dd) → am_Call l yX_fault.cls 1 ins b dd (fnX_fault a) := by
  intro a ins b dd h
  match a, h with
  | 0, h => cases h; exact am_callV (T := F_10) (N := 17) (okX_textOf l) wcX_textOf (am_m2 (i := 150) rfl rfl) wiX_textOf wsX_textOf inX rfl (by decide) (by decide +kernel) (by decide) (by decide)
  | 1, h => cases h; exact am_callV (T := F_8) (N := 5) (okT_firstFault l) wcT_firstFault (am_m2 (i := 194) rfl rfl) wiT_firstFault wsT_firstFault inT rfl (by decide) (by decide +kernel) (by decide) (by decide)
  | k + 2, h => simp [csX_fault] at h
theorem okX_fault (l : Launch) : am_Ok l yX_fault prog_1_method_5_code 3 (some .int) 1 spX_fault := am_ok_of (by decide +kernel) flX_ok kiX_ok klX_ok ckX_fault (clX_fault l) wpX_fault
def fnX_told : Nat → am_Sp := fun a => match a with
  | 0 => spX_isDoor
  | _ => am_no
theorem mfX_told : ∀ a, am_mono (fnX_told a) := fun a => match a with
  | 0 => moX_isDoor
  | _ + 1 => am_no_mono
def spX_told : am_Sp := fun as D L K => match as with
  | [.ref 0, .int x, .int y] => ∃ v : vs_T, vok v ∧ ix D v ∧ ∀ (D' : am_D) (L' : am_L), fc D D' → ix D' v → K (some (.int (qTold v x y))) D' L'
  | _ => False
theorem moX_told : am_mono spX_told := by
  intro as D L K K' hK h
  unfold spX_told at h ⊢
  split at h
  · obtain ⟨z0, z1, z2, hz⟩ := h
    exact ⟨z0, z1, z2, fun D' L' q1 q2 => hK _ _ _ (hz D' L' q1 q2)⟩
  · exact h
theorem wpX_told : ∀ (as : List Value) (D : am_D) (L : am_L) (K : am_K), spX_told as D L K → am_fit 3 as = true ∧ am_Wp false 0 cdX_told fnX_told K 0 (am_lo 3 as) [] D L := by
  intro as D L K h
  unfold spX_told at h
  split at h
  · rename_i x y
    obtain ⟨v, hv, hi, hK⟩ := h
    have kb : ¬ ((0 ≤ x ∧ x ≤ 11) ∧ (0 ≤ y ∧ y ≤ 1)) → K (some (.int (-2))) D L := fun q => by
      have k := hK D L fc_rf
      unfold qTold at k
      by_cases c0 : (0 ≤ x ∧ x ≤ 11)
      · by_cases c1 : (0 ≤ y ∧ y ≤ 1)
        · exact absurd ⟨c0, c1⟩ q
        · rw [if_pos c0, if_neg c1] at k
          exact k hi
      · rw [if_neg c0] at k
        exact k hi
    refine ⟨rfl, am_Wp_bl mfX_told [] 90 _ _ _ _ _ ?_⟩
    (repeat ((conv => whnf); (first | refine zo0 ?_ | refine zo1 ?_ | refine br_z ?_ | refine br_o ?_ | refine br_zn ?_ | refine br_on ?_ | refine nz2 ?_ | refine nz6 ?_ | refine nz32 ?_ | refine And.intro (by assumption) ?_))); (conv => whnf)
    refine ⟨fun hd => ?_, fun hd => ?_⟩
    rotate_left
    · (repeat ((conv => whnf); (first | refine zo0 ?_ | refine zo1 ?_ | refine br_z ?_ | refine br_o ?_ | refine br_zn ?_ | refine br_on ?_ | refine nz2 ?_ | refine nz6 ?_ | refine nz32 ?_ | refine And.intro (by assumption) ?_))); (conv => whnf)
      exact kb (fun q => hd (isd_iff.mpr q.1))
    have hx := isd_iff.mp hd
    (repeat ((conv => whnf); (first | refine zo0 ?_ | refine zo1 ?_ | refine br_z ?_ | refine br_o ?_ | refine br_zn ?_ | refine br_on ?_ | refine nz2 ?_ | refine nz6 ?_ | refine nz32 ?_ | refine And.intro (by assumption) ?_))); (conv => whnf)
    refine ⟨fun h1 => ?_, fun h1 => ?_⟩
    · (repeat ((conv => whnf); (first | refine zo0 ?_ | refine zo1 ?_ | refine br_z ?_ | refine br_o ?_ | refine br_zn ?_ | refine br_on ?_ | refine nz2 ?_ | refine nz6 ?_ | refine nz32 ?_ | refine And.intro (by assumption) ?_))); (conv => whnf)
      exact kb (fun q => rn0 h1 q.2)
    (repeat ((conv => whnf); (first | refine zo0 ?_ | refine zo1 ?_ | refine br_z ?_ | refine br_o ?_ | refine br_zn ?_ | refine br_on ?_ | refine nz2 ?_ | refine nz6 ?_ | refine nz32 ?_ | refine And.intro (by assumption) ?_))); (conv => whnf)
    refine ⟨fun h2 => ?_, fun h2 => ?_⟩
    rotate_left
    · (repeat ((conv => whnf); (first | refine zo0 ?_ | refine zo1 ?_ | refine br_z ?_ | refine br_o ?_ | refine br_zn ?_ | refine br_on ?_ | refine nz2 ?_ | refine nz6 ?_ | refine nz32 ?_ | refine And.intro (by assumption) ?_))); (conv => whnf)
      exact kb (fun q => rn2 h2 q.2)
    have hy : 0 ≤ y ∧ y ≤ 1 := ⟨Int32.not_lt.mp h1, h2⟩
    obtain ⟨d, hd', ed⟩ := rg_nI (n := 11) (by decide) hx
    obtain ⟨c, hc, ec⟩ := rg_nI (n := 1) (by decide) hy
    have k := hK D L fc_rf hi
    unfold qTold at k
    rw [if_pos hx, if_pos hy, ed, ec, cN_nI (by omega), cN_nI (by omega)] at k
    have cd : x.toNatClampNeg = d := by rw [ed]; exact nI_clamp (by omega)
    have in12 : vp_in x 12 := by rw [ed]; exact vp_in_nI (by omega) (by decide)
    have pd := hi.1.2.1.1.2.2.2.2.1 d (by omega)
    (repeat ((conv => whnf); (first | refine zo0 ?_ | refine zo1 ?_ | refine br_z ?_ | refine br_o ?_ | refine br_zn ?_ | refine br_on ?_ | refine nz2 ?_ | refine nz6 ?_ | refine nz32 ?_ | refine And.intro (by assumption) ?_))); (conv => whnf)
    refine ⟨fun h3 => ?_, fun h3 => ?_⟩
    · have e1 : c = 1 := by
        rcases (show c = 0 ∨ c = 1 by omega) with q | q
        · rw [q] at ec; exact absurd (ec.trans nI_0) h3
        · exact q
      (repeat ((conv => whnf); (first | refine zo0 ?_ | refine zo1 ?_ | refine br_z ?_ | refine br_o ?_ | refine br_zn ?_ | refine br_on ?_ | refine nz2 ?_ | refine nz6 ?_ | refine nz32 ?_ | refine And.intro (by assumption) ?_))); (conv => whnf)
      rw [cd]
      rw [e1, ← pd.2] at k
      exact k
    · have e1 : c = 0 := by
        rcases (show c = 0 ∨ c = 1 by omega) with q | q
        · exact q
        · rw [q, nc1, h3] at ec; exact absurd ec (by decide)
      (repeat ((conv => whnf); (first | refine zo0 ?_ | refine zo1 ?_ | refine br_z ?_ | refine br_o ?_ | refine br_zn ?_ | refine br_on ?_ | refine nz2 ?_ | refine nz6 ?_ | refine nz32 ?_ | refine And.intro (by assumption) ?_))); (conv => whnf)
      rw [cd]
      rw [e1, ← pd.1] at k
      exact k
  · exact absurd h id
theorem clX_told (l : Launch) : ∀ (a : Nat) (ins : Instr) (b dd : Nat), csX_told[a]? = some (ins, b, dd) → am_Call l yX_told.cls 1 ins b dd (fnX_told a) := by
  intro a ins b dd h
  match a, h with
  | 0, h => cases h; exact am_callS (okX_isDoor l) wcX_isDoor (am_m2 (i := 199) rfl rfl) wtX_isDoor inX (by decide +kernel) (by decide) (by decide)
  | k + 1, h => simp [csX_told] at h
theorem okX_told (l : Launch) : am_Ok l yX_told prog_1_method_6_code 3 (some .int) 1 spX_told := am_ok_of (by decide +kernel) flX_ok kiX_ok klX_ok ckX_told (clX_told l) wpX_told
def fnX_round : Nat → am_Sp := fun a => match a with
  | 0 => spP_doorAt
  | _ => am_no
theorem mfX_round : ∀ a, am_mono (fnX_round a) := fun a => match a with
  | 0 => moP_doorAt
  | _ + 1 => am_no_mono
def spX_round : am_Sp := fun as D L K => match as with
  | [.ref 0, .int x] => ∃ v : vs_T, vok v ∧ ix D v ∧ ∀ (D' : am_D) (L' : am_L), fc D D' → ix D' v → K (some (.int (qRound v x))) D' L'
  | _ => False
theorem moX_round : am_mono spX_round := by
  intro as D L K K' hK h
  unfold spX_round at h ⊢
  split at h
  · obtain ⟨z0, z1, z2, hz⟩ := h
    exact ⟨z0, z1, z2, fun D' L' q1 q2 => hK _ _ _ (hz D' L' q1 q2)⟩
  · exact h
theorem wpX_round : ∀ (as : List Value) (D : am_D) (L : am_L) (K : am_K), spX_round as D L K → am_fit 2 as = true ∧ am_Wp false 0 cdX_round fnX_round K 0 (am_lo 2 as) [] D L := by
  intro as D L K h
  unfold spX_round at h
  split at h
  · rename_i x
    obtain ⟨v, hv, hi, hK⟩ := h
    have kb : ¬ ((0 ≤ x ∧ x ≤ 23)) → K (some (.int (-2))) D L := fun q => by
      have k := hK D L fc_rf
      unfold qRound at k
      by_cases c0 : (0 ≤ x ∧ x ≤ 23)
      · exact absurd c0 q
      · rw [if_neg c0] at k
        exact k hi
    refine ⟨rfl, am_Wp_bl mfX_round [] 90 _ _ _ _ _ ?_⟩
    (repeat ((conv => whnf); (first | refine zo0 ?_ | refine zo1 ?_ | refine br_z ?_ | refine br_o ?_ | refine br_zn ?_ | refine br_on ?_ | refine nz2 ?_ | refine nz6 ?_ | refine nz32 ?_ | refine And.intro (by assumption) ?_))); (conv => whnf)
    refine ⟨fun h1 => ?_, fun h1 => ?_⟩
    · (repeat ((conv => whnf); (first | refine zo0 ?_ | refine zo1 ?_ | refine br_z ?_ | refine br_o ?_ | refine br_zn ?_ | refine br_on ?_ | refine nz2 ?_ | refine nz6 ?_ | refine nz32 ?_ | refine And.intro (by assumption) ?_))); (conv => whnf)
      exact kb (rn0 h1)
    (repeat ((conv => whnf); (first | refine zo0 ?_ | refine zo1 ?_ | refine br_z ?_ | refine br_o ?_ | refine br_zn ?_ | refine br_on ?_ | refine nz2 ?_ | refine nz6 ?_ | refine nz32 ?_ | refine And.intro (by assumption) ?_))); (conv => whnf)
    refine ⟨fun h2 => ?_, fun h2 => ?_⟩
    rotate_left
    · (repeat ((conv => whnf); (first | refine zo0 ?_ | refine zo1 ?_ | refine br_z ?_ | refine br_o ?_ | refine br_zn ?_ | refine br_on ?_ | refine nz2 ?_ | refine nz6 ?_ | refine nz32 ?_ | refine And.intro (by assumption) ?_))); (conv => whnf)
      exact kb (rn3 23 (Int32.not_lt.mp h2))
    have hx : 0 ≤ x ∧ x ≤ 23 := rq3 23 h1 (fun q => Int32.not_lt.mpr q h2)
    obtain ⟨d, hd', ed⟩ := rg_nI (n := 23) (by decide) hx
    have k := hK D L fc_rf hi
    unfold qRound at k
    rw [if_pos hx, ed, cN_nI (by omega)] at k
    (repeat ((conv => whnf); (first | refine zo0 ?_ | refine zo1 ?_ | refine br_z ?_ | refine br_o ?_ | refine br_zn ?_ | refine br_on ?_ | refine nz2 ?_ | refine nz6 ?_ | refine nz32 ?_ | refine And.intro (by assumption) ?_))); (conv => whnf)
    refine ⟨vpl v, d, Or.inl rfl, ed, by omega, (vpl_ok hv).1, hi.1.2.1.1, fun q => ?_, fun q => ?_⟩
    · (repeat ((conv => whnf); (first | refine zo0 ?_ | refine zo1 ?_ | refine br_z ?_ | refine br_o ?_ | refine br_zn ?_ | refine br_on ?_ | refine nz2 ?_ | refine nz6 ?_ | refine nz32 ?_ | refine And.intro (by assumption) ?_))); (conv => whnf)
      rw [if_pos q] at k
      exact k
    · (repeat ((conv => whnf); (first | refine zo0 ?_ | refine zo1 ?_ | refine br_z ?_ | refine br_o ?_ | refine br_zn ?_ | refine br_on ?_ | refine nz2 ?_ | refine nz6 ?_ | refine nz32 ?_ | refine And.intro (by assumption) ?_))); (conv => whnf)
      rw [if_neg (by omega)] at k
      exact k
  · exact absurd h id
theorem clX_round (l : Launch) : ∀ (a : Nat) (ins : Instr) (b dd : Nat), csX_round[a]? = some (ins, b, dd) → am_Call l yX_round.cls 1 ins b dd (fnX_round a) := by
  intro a ins b dd h
  match a, h with
  | 0, h => cases h; exact am_callV (T := F_4) (N := 8) (okP_doorAt l) wcP_doorAt (am_m2 (i := 206) rfl rfl) wiP_doorAt wsP_doorAt inP rfl (by decide) (by decide +kernel) (by decide) (by decide)
  | k + 1, h => simp [csX_round] at h
theorem okX_round (l : Launch) : am_Ok l yX_round prog_1_method_7_code 2 (some .int) 1 spX_round := am_ok_of (by decide +kernel) flX_ok kiX_ok klX_ok ckX_round (clX_round l) wpX_round
