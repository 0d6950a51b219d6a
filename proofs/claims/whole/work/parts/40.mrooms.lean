def fnM_roomsBy : Nat → am_Sp := fun a => match a with
  | 0 => spM_asTold
  | 1 => spM_isSeen
  | _ => am_no
theorem mfM_roomsBy : ∀ a, am_mono (fnM_roomsBy a) := fun a => match a with
  | 0 => moM_asTold
  | 1 => moM_isSeen
  | _ + 2 => am_no_mono
/-! bits of a row of answers -/
def mkN (f : Nat → Bool) : Nat → Nat
  | 0 => 0
  | k + 1 => mkN f k + (if f k = true then 2 ^ k else 0)
theorem mkN_lt (f : Nat → Bool) : ∀ k, mkN f k < 2 ^ k
  | 0 => by simp [mkN]
  | k + 1 => by
    have := mkN_lt f k
    have e : 2 ^ (k + 1) = 2 ^ k + 2 ^ k := by rw [Nat.pow_succ]; omega
    simp only [mkN]
    split <;> omega
theorem mkN_bit (f : Nat → Bool) : ∀ k j, j < k → mkN f k / 2 ^ j % 2 = if f j = true then 1 else 0
  | 0, j, h => by omega
  | k + 1, j, h => by
    have hl := mkN_lt f k
    simp only [mkN]
    by_cases e : j = k
    · subst e
      by_cases q : f j = true
      · rw [if_pos q, if_pos q, Nat.add_div_right _ (Nat.two_pow_pos j), Nat.div_eq_of_lt hl]
      · rw [if_neg q, if_neg q, Nat.add_zero, Nat.div_eq_of_lt hl]
    · have ih := mkN_bit f k j (by omega)
      by_cases q : f k = true
      · rw [if_pos q]
        have e2 : 2 ^ k = 2 ^ j * (2 * 2 ^ (k - j - 1)) := by
          rw [← Nat.pow_succ', ← Nat.pow_add]
          congr 1
          omega
        rw [e2, Nat.add_mul_div_left _ _ (Nat.two_pow_pos j), Nat.add_mul_mod_self_left]
        exact ih
      · rw [if_neg q, Nat.add_zero]
        exact ih
theorem mkN_0 (f : Nat → Bool) : ∀ k, (∀ i, i < k → f i = false) → mkN f k = 0
  | 0, _ => rfl
  | k + 1, h => by
    simp only [mkN]
    rw [mkN_0 f k (fun i hi => h i (by omega)), h k (by omega)]
    rfl
theorem mbits_mk (f : Nat → Bool) (lo : Nat) : ∀ n, lo + n ≤ 12 → mbits f lo n = nI (mkN (fun k => decide (lo ≤ k) && f k) (lo + n))
  | 0, _ => by
    rw [Nat.add_zero, mkN_0 _ _ (fun i hi => by simp; intro h; omega)]
    rfl
  | n + 1, h => by
    have ih := mbits_mk f lo n (by omega)
    rw [mbits, ih, show lo + (n + 1) = (lo + n) + 1 from rfl, mkN]
    have e : (decide (lo ≤ lo + n) && f (lo + n)) = f (lo + n) := by rw [decide_eq_true (by omega)]; rfl
    by_cases q : f (lo + n) = true
    · rw [if_pos q, lk_or (lo + n) (by omega) _ (mkN_lt _ _), if_pos (show (decide (lo ≤ lo + n) && f (lo + n)) = true by rw [e]; exact q)]
    · rw [if_neg q, if_neg (show ¬ (decide (lo ≤ lo + n) && f (lo + n)) = true by rw [e]; exact q), Nat.add_zero]
theorem bit_nI : ∀ j, j < 9 → ∀ m, m < 512 → (((nI m >>> (nI j &&& 31)) &&& 1 = 0) ↔ m / 2 ^ j % 2 = 0) := by decide +kernel
theorem rooms_bit {v : vs_T} {j : Nat} (h1 : 1 ≤ j) (h2 : j ≤ 8) : ((aRooms v >>> (nI j &&& 31)) &&& 1 = 0) ↔ mS v (pR (vpl v) j) allp = false := by
  unfold aRooms
  rw [mbits_mk _ 1 8 (by omega), bit_nI j (by omega) _ (mkN_lt _ 9), mkN_bit _ 9 j (by omega)]
  have e : (decide (1 ≤ j) && mS v (pR (vpl v) j) allp) = mS v (pR (vpl v) j) allp := by rw [decide_eq_true h1]; rfl
  rw [e]
  cases mS v (pR (vpl v) j) allp <;> simp
/-- where he is, by the room -/
def pos (v : vs_T) (r t : Nat) : Nat := mw_run (pR (vpl v) r) (vev v) allp (t + 1) 0 0
def spM_roomsBy : am_Sp := fun as D L K => match as with
  | [.ref 49] => ∃ v : vs_T, vok v ∧ im D v ∧ ∀ D', fq D D' → (∀ r, 1 ≤ r → r ≤ 8 → ∀ t, t < 48 → D' 73 (48 * r + t) = nI (pos v r t)) → K (some (.int (aRooms v))) D' L
  | _ => False
theorem moM_roomsBy : am_mono spM_roomsBy := by
  intro as D L K K' hK h
  unfold spM_roomsBy at h ⊢
  split at h
  · obtain ⟨v, h1, h2, h3⟩ := h
    exact ⟨v, h1, h2, fun D' q1 q2 => hK _ _ _ (h3 D' q1 q2)⟩
  · exact h
theorem wpM_roomsBy : ∀ (as : List Value) (D : am_D) (L : am_L) (K : am_K), spM_roomsBy as D L K → am_fit 4 as = true ∧ am_Wp false 0 cdM_roomsBy fnM_roomsBy K 0 (am_lo 4 as) [] D L := by
  intro as D L K h
  unfold spM_roomsBy at h
  split at h
  · obtain ⟨v, hv, hi, hK⟩ := h
    have rows : ∀ (r : Nat) (bits : Int32), 1 ≤ r → r ≤ 8 → ∀ (D1 : am_D), (∀ t, t < 48 → D1 65 t = nI (pos v r t)) → (∀ D', (∀ k, k ≠ 73 → D' k = D1 k) → (∀ j, j < 48 * r ∨ 48 * r + 48 ≤ j → D' 73 j = D1 73 j) → (∀ t, t < 48 → D' 73 (48 * r + t) = nI (pos v r t)) → am_Wp false 0 cdM_roomsBy fnM_roomsBy K 8 [some (.ref 49), some (.int bits), some (.int (nI (r + 1))), some (.int (nI 48))] [] D' L) →
        ∀ (m i : Nat) (D' : am_D), i + m = 48 → (∀ k, k ≠ 73 → D' k = D1 k) → (∀ j, j < 48 * r ∨ 48 * r + 48 ≤ j → D' 73 j = D1 73 j) → (∀ t, t < i → D' 73 (48 * r + t) = nI (pos v r t)) → am_Wp false 0 cdM_roomsBy fnM_roomsBy K 38 [some (.ref 49), some (.int bits), some (.int (nI r)), some (.int (nI i))] [] D' L := by
      intro r bits r1 r2 D1 htr hout m
      induction m with
      | zero =>
        intro i D' hi' g1 g2 g3
        refine am_Wp_bl mfM_roomsBy [8] 40 _ _ _ _ _ ?_
        (repeat ((conv => whnf); (first | refine zo0 ?_ | refine zo1 ?_ | refine br_z ?_ | refine br_o ?_ | refine br_zn ?_ | refine br_on ?_ | refine nz2 ?_ | refine nz6 ?_ | refine nz32 ?_ | refine And.intro (by assumption) ?_))); (conv => whnf)
        refine ⟨fun h1 => ?_, fun h1 => absurd (nI_le (a := 48) (by omega) (by omega)) h1⟩
        (repeat ((conv => whnf); (first | refine zo0 ?_ | refine zo1 ?_ | refine br_z ?_ | refine br_o ?_ | refine br_zn ?_ | refine br_on ?_ | refine nz2 ?_ | refine nz6 ?_ | refine nz32 ?_ | refine And.intro (by assumption) ?_))); (conv => whnf)
        rw [nI_1]
        have ei : i = 48 := by omega
        subst ei
        exact hout D' g1 g2 g3
      | succ m ih =>
        intro i D' hi' g1 g2 g3
        have ec : (nI i).toNatClampNeg = i := nI_clamp (by omega)
        have hin : vp_in (nI i) 48 := vp_in_nI (by omega) (by decide)
        have e48 : (48 : Int32) * nI r + nI i = nI (48 * r + i) := by rw [show (48 : Int32) = nI 48 by decide +kernel, pk_mul, nI_add]
        have hin2 : vp_in (nI (48 * r + i)) 432 := vp_in_nI (by omega) (by decide)
        have ec2 : (nI (48 * r + i)).toNatClampNeg = 48 * r + i := nI_clamp (by omega)
        have e65 : D' 65 i = nI (pos v r i) := by rw [g1 65 (by decide)]; exact htr i (by omega)
        refine am_Wp_bl mfM_roomsBy [38] 40 _ _ _ _ _ ?_
        (repeat ((conv => whnf); (first | refine zo0 ?_ | refine zo1 ?_ | refine br_z ?_ | refine br_o ?_ | refine br_zn ?_ | refine br_on ?_ | refine nz2 ?_ | refine nz6 ?_ | refine nz32 ?_ | refine And.intro (by assumption) ?_))); (conv => whnf)
        refine ⟨fun h1 => absurd h1 (nI_ge (b := 48) (by omega) (by omega)), fun h1 => ?_⟩
        (repeat ((conv => whnf); (first | refine zo0 ?_ | refine zo1 ?_ | refine br_z ?_ | refine br_o ?_ | refine br_zn ?_ | refine br_on ?_ | refine nz2 ?_ | refine nz6 ?_ | refine nz32 ?_ | refine And.intro (by assumption) ?_))); (conv => whnf)
        rw [e48]
        (repeat ((conv => whnf); (first | refine zo0 ?_ | refine zo1 ?_ | refine br_z ?_ | refine br_o ?_ | refine br_zn ?_ | refine br_on ?_ | refine nz2 ?_ | refine nz6 ?_ | refine nz32 ?_ | refine And.intro (by assumption) ?_))); (conv => whnf)
        rw [ec, ec2, e65, nI_1]
        refine ih (i + 1) _ (by omega) (fun k hk => (am_up_ne hk).trans (g1 k hk)) (fun j hj => ?_) (fun t ht => ?_)
        · rw [am_up_eq]
          unfold upd
          rw [if_neg (by omega)]
          exact g2 j hj
        · rw [am_up_eq]
          unfold upd
          by_cases et : t = i
          · rw [if_pos (by omega), et]
          · rw [if_neg (by omega)]; exact g3 t (by omega)
    have loop : ∀ (m i : Nat) (D' : am_D) (k3 : Option Value), i + m = 8 → fq D D' → D' 49 15 = 0 → (∃ P', pm D' P' ∧ ∀ b, pR P' b = pR (vpl v) b) → (∀ r, 1 ≤ r → r < 1 + i → ∀ t, t < 48 → D' 73 (48 * r + t) = nI (pos v r t)) → am_Wp false 0 cdM_roomsBy fnM_roomsBy K 8 [some (.ref 49), some (.int (mbits (fun r => mS v (pR (vpl v) r) allp) 1 i)), some (.int (nI (1 + i))), k3] [] D' L := by
      intro m
      induction m with
      | zero =>
        intro i D' k3 hi' hf h15 hp hrow
        refine am_Wp_bl mfM_roomsBy [8] 40 _ _ _ _ _ ?_
        (repeat ((conv => whnf); (first | refine zo0 ?_ | refine zo1 ?_ | refine br_z ?_ | refine br_o ?_ | refine br_zn ?_ | refine br_on ?_ | refine nz2 ?_ | refine nz6 ?_ | refine nz32 ?_ | refine And.intro (by assumption) ?_))); (conv => whnf)
        refine ⟨fun h1 => ?_, fun h1 => absurd (nI_le (a := 9) (by omega) (by omega)) h1⟩
        (repeat ((conv => whnf); (first | refine zo0 ?_ | refine zo1 ?_ | refine br_z ?_ | refine br_o ?_ | refine br_zn ?_ | refine br_on ?_ | refine nz2 ?_ | refine nz6 ?_ | refine nz32 ?_ | refine And.intro (by assumption) ?_))); (conv => whnf)
        have k := hK D' hf (fun r h1 h2 => hrow r h1 (by omega))
        rw [show i = 8 by omega]
        exact k
      | succ m ih =>
        intro i D' k3 hi' hf h15 hp hrow
        obtain ⟨P', hp1, hp2⟩ := hp
        refine am_Wp_bl mfM_roomsBy [38] 40 _ _ _ _ _ ?_
        (repeat ((conv => whnf); (first | refine zo0 ?_ | refine zo1 ?_ | refine br_z ?_ | refine br_o ?_ | refine br_zn ?_ | refine br_on ?_ | refine nz2 ?_ | refine nz6 ?_ | refine nz32 ?_ | refine And.intro (by assumption) ?_))); (conv => whnf)
        refine ⟨fun h1 => absurd h1 (nI_ge (b := 9) (by omega) (by omega)), fun h1 => ?_⟩
        (repeat ((conv => whnf); (first | refine zo0 ?_ | refine zo1 ?_ | refine br_z ?_ | refine br_o ?_ | refine br_zn ?_ | refine br_on ?_ | refine nz2 ?_ | refine nz6 ?_ | refine nz32 ?_ | refine And.intro (by assumption) ?_))); (conv => whnf)
        have f1 : fq D (am_up D' 49 14 (nI (1 + i))) := fq_tr hf (fq_up49 (by decide) fq_rf)
        have p1 := pm_R (1 + i) hp1
        rw [hp2] at p1
        have z15 : am_up D' 49 14 (nI (1 + i)) 49 15 = 0 := by rw [am_up_eq]; simp [upd, h15]
        refine ⟨v, pR (vpl v) (1 + i), allp, hv, im_fq hi f1, pR_ok (vpl_ok hv) (by omega) (by omega), p1, by rw [z15]; exact prx_0, fun D2 r f2 t2 hr => ?_⟩
        have f3 : fq D D2 := fq_tr f1 (fq_fg f2)
        have p2 := pm_fg p1 f2
        have w73 : D2 73 = D' 73 := (f2.1 73 (by decide) (by omega)).trans (am_up_ne (by decide))
        have next : ∀ bits : Int32, bits = mbits (fun r => mS v (pR (vpl v) r) allp) 1 (i + 1) → am_Wp false 0 cdM_roomsBy fnM_roomsBy K 38 [some (.ref 49), some (.int bits), some (.int (nI (1 + i))), some (.int 0)] [] D2 L := by
          intro bits hbits
          refine rows (1 + i) bits (by omega) (by omega) D2 t2 (fun D3 g1 g2 g3 => ?_) 48 0 D2 (by omega) (fun _ _ => rfl) (fun _ _ => rfl) (fun t ht => absurd ht (by omega))
          rw [hbits]
          have res := ih (i + 1) D3 (some (.int (nI 48))) (by omega) ⟨fun k hk => (g1 k (by omega)).trans (f3.1 k hk), by rw [g1 49 (by decide)]; exact f3.2.1, by rw [g1 49 (by decide)]; exact f3.2.2.1, by rw [g1 49 (by decide)]; exact f3.2.2.2⟩ (by rw [g1 49 (by decide), f2.2 15 (by omega)]; exact z15) ⟨pR (vpl v) (1 + i), ?_, fun b => pR_R _ _ _⟩ (fun r q1 q2 t ht => ?_)
          · exact res
          · obtain ⟨x1, x2, x3, x4, x5, x6⟩ := p2
            refine ⟨?_, ?_, ?_, ?_, ?_, ?_⟩
            · rw [g1 49 (by decide)]; exact x1
            · rw [g1 49 (by decide)]; exact x2
            · rw [g1 49 (by decide)]; exact x3
            · rw [g1 55 (by decide)]; exact x4
            · rw [g1 59 (by decide), g1 53 (by decide)]; exact x5
            · rw [g1 60 (by decide)]; exact x6
          · by_cases er : r = 1 + i
            · rw [er]; exact g3 t ht
            · rw [g2 _ (by omega), w73]
              exact hrow r q1 (by omega) t ht
        rcases hr with ⟨s1, rfl⟩ | ⟨s1, rfl⟩
        · (repeat ((conv => whnf); (first | refine zo0 ?_ | refine zo1 ?_ | refine br_z ?_ | refine br_o ?_ | refine br_zn ?_ | refine br_on ?_ | refine nz2 ?_ | refine nz6 ?_ | refine nz32 ?_ | refine And.intro (by assumption) ?_))); (conv => whnf)
          exact next _ (by rw [mbits, if_pos s1])
        · (repeat ((conv => whnf); (first | refine zo0 ?_ | refine zo1 ?_ | refine br_z ?_ | refine br_o ?_ | refine br_zn ?_ | refine br_on ?_ | refine nz2 ?_ | refine nz6 ?_ | refine nz32 ?_ | refine And.intro (by assumption) ?_))); (conv => whnf)
          rw [or0]
          exact next _ (by rw [mbits, if_neg (by rw [s1]; decide)])
    refine ⟨rfl, am_Wp_bl mfM_roomsBy [8] 40 _ _ _ _ _ ?_⟩
    (repeat ((conv => whnf); (first | refine zo0 ?_ | refine zo1 ?_ | refine br_z ?_ | refine br_o ?_ | refine br_zn ?_ | refine br_on ?_ | refine nz2 ?_ | refine nz6 ?_ | refine nz32 ?_ | refine And.intro (by assumption) ?_))); (conv => whnf)
    refine ⟨v, hv, hi, fun D1 f1 r1 p1 n1 _ => ?_⟩
    (repeat ((conv => whnf); (first | refine zo0 ?_ | refine zo1 ?_ | refine br_z ?_ | refine br_o ?_ | refine br_zn ?_ | refine br_on ?_ | refine nz2 ?_ | refine nz6 ?_ | refine nz32 ?_ | refine And.intro (by assumption) ?_))); (conv => whnf)
    exact loop 8 0 D1 none (by omega) (fq_fa f1) n1 ⟨vpl v, p1, fun _ => rfl⟩ (fun r q1 q2 => by omega)
  · exact absurd h id
theorem clM_roomsBy (l : Launch) : ∀ (a : Nat) (ins : Instr) (b dd : Nat), csM_roomsBy[a]? = some (ins, b, dd) → am_Call l yM_roomsBy.cls 7 ins b dd (fnM_roomsBy a) := by
  intro a ins b dd h
  match a, h with
  | 0, h => cases h; exact am_callV (T := F_11) (N := 52) (okM_asTold l) wcM_asTold (am_m5 (i := 116) rfl rfl) wiM_asTold wsM_asTold inM rfl (by decide) (by decide +kernel) (by decide) (by decide)
  | 1, h => cases h; exact am_callV (T := F_11) (N := 52) (okM_isSeen l) wcM_isSeen (am_m6 (i := 41) rfl rfl) wiM_isSeen wsM_isSeen inM rfl (by decide) (by decide +kernel) (by decide) (by decide)
  | k + 2, h => simp [csM_roomsBy] at h
theorem okM_roomsBy (l : Launch) : am_Ok l yM_roomsBy prog_13_method_74_code 4 (some .int) 7 spM_roomsBy := am_ok_of (by decide +kernel) flM_ok kiM_ok klM_ok ckM_roomsBy (clM_roomsBy l) wpM_roomsBy
