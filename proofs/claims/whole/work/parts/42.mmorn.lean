def fnM_morningsOf : Nat → am_Sp := fun a => match a with
  | 0 => spM_asTold
  | 1 => spM_runs
  | 2 => spM_manyShort
  | _ => am_no
theorem mfM_morningsOf : ∀ a, am_mono (fnM_morningsOf a) := fun a => match a with
  | 0 => moM_asTold
  | 1 => moM_runs
  | 2 => moM_manyShort
  | _ + 3 => am_no_mono
/-! mornings by a seed -/
def lot (s : Int32) : Nat → Int32
  | 0 => s
  | j + 1 => 1103515245 * lot s j + 12345
def lotW (x : Int32) : Nat := x.toBitVec.toNat / 2 ^ 16 % 6
theorem lot_eq (x : Int32) : (x.toUInt32 >>> ((16 : Int32).toUInt32 &&& Int32.toUInt32 31)).toInt32 - (x.toUInt32 >>> ((16 : Int32).toUInt32 &&& Int32.toUInt32 31)).toInt32 / 6 * 6 = nI (lotW x) := by
  have h := pk_ushr x 16 16 (by decide +kernel)
  have hl : x.toBitVec.toNat / 2 ^ 16 < 65536 := by
    have := x.toBitVec.isLt
    omega
  have e : (x.toUInt32 >>> ((16 : Int32).toUInt32 &&& Int32.toUInt32 31)).toInt32 = nI (x.toBitVec.toNat / 2 ^ 16) := by
    apply Int32.toBitVec_inj.mp
    apply BitVec.eq_of_toNat_eq
    rw [h, pk_tn (by omega)]
  rw [e, show (6 : Int32) = nI 6 by decide +kernel, pk_rem (by omega) (by decide) (by decide)]
  rfl
def pM (P : mw_T) (s : Int32) (k : Nat) : mw_T := fun c => if c = 1 then (fun d => if d < k then lotW (lot s (d + 1)) else 0) else P c
theorem pM_o {P : mw_T} {s : Int32} {k c : Nat} (h : c ≠ 1) : pM P s k c = P c := by unfold pM; rw [if_neg h]
theorem pM_ok {P : mw_T} {s : Int32} {k : Nat} (hP : mw_pok P) : mw_pok (pM P s k) := by
  obtain ⟨q1, q2, q3, q4, q5, q6, q7⟩ := hP
  refine ⟨q1, q2, q3, q4, q5, fun i hi => ⟨?_, (q6 i hi).2⟩, q7⟩
  show (if i < k then lotW (lot s (i + 1)) else 0) ≤ 5
  unfold lotW
  split <;> omega
def aMorn (v : vs_T) (s : Int32) (k c : Nat) : Int32 := if c = 0 then nI (mN (pM (vpl v) s k) (vev v) allp) else nI (mW (pM (vpl v) s k) (vev v) allp)
def spM_morningsOf : am_Sp := fun as D L K => match as with
  | [.ref 49, .int sd, .int y, .int z] => ∃ (v : vs_T) (k c : Nat), vok v ∧ im D v ∧ y = nI k ∧ k ≤ 12 ∧ z = nI c ∧ c < 2 ∧ ∀ D', fq D D' → K (some (.int (aMorn v sd k c))) D' L
  | _ => False
theorem moM_morningsOf : am_mono spM_morningsOf := by
  intro as D L K K' hK h
  unfold spM_morningsOf at h ⊢
  split at h
  · obtain ⟨z0, z1, z2, z3, z4, z5, z6, z7, z8, hz⟩ := h
    exact ⟨z0, z1, z2, z3, z4, z5, z6, z7, z8, fun D' q => hK _ _ _ (hz D' q)⟩
  · exact h
theorem wpM_morningsOf : ∀ (as : List Value) (D : am_D) (L : am_L) (K : am_K), spM_morningsOf as D L K → am_fit 6 as = true ∧ am_Wp false 0 cdM_morningsOf fnM_morningsOf K 0 (am_lo 6 as) [] D L := by
  intro as D L K h
  unfold spM_morningsOf at h
  split at h
  · rename_i sd y z
    obtain ⟨v, k, c, hv, hi, rfl, hk, rfl, hc, hK⟩ := h
    have hP := pM_ok (s := sd) (k := k) (vpl_ok hv)
    have hE := vev_ok hv
    have c0 : nI c = 0 ↔ c = 0 := by rw [← nI_0, nI_eq (by omega) (by omega)]
    have loop : ∀ (m i : Nat) (D1 D' : am_D), i + m = 12 → fq D D1 → D1 49 15 = 0 → pm D1 (vpl v) → (∀ q, q ≠ 59 → D' q = D1 q) → (∀ d, d < i → D' 59 d = nI (pM (vpl v) sd k 1 d)) → am_Wp false 0 cdM_morningsOf fnM_morningsOf K 10 [some (.ref 49), some (.int sd), some (.int (nI k)), some (.int (nI c)), some (.int (lot sd (min i k))), some (.int (nI i))] [] D' L := by
      intro m
      induction m with
      | zero =>
        intro i D1 D' hi' hf h15 hp g1 g2
        have p1 : pm D' (pM (vpl v) sd k) := by
          obtain ⟨x1, x2, x3, x4, x5, x6⟩ := hp
          refine ⟨?_, ?_, ?_, ?_, fun d hd => ⟨g2 d (by omega), ?_⟩, ?_⟩
          · rw [pM_o (by decide), g1 49 (by decide)]; exact x1
          · rw [pM_o (by decide), g1 49 (by decide)]; exact x2
          · rw [pM_o (by decide), g1 49 (by decide)]; exact x3
          · rw [pM_o (by decide), g1 55 (by decide)]; exact x4
          · rw [pM_o (by decide), g1 53 (by decide)]; exact (x5 d hd).2
          · rw [pM_o (by decide), pM_o (by decide), g1 60 (by decide)]; exact x6
        have f1 : fq D D' := ⟨fun q hq => (g1 q (by omega)).trans (hf.1 q hq), by rw [g1 49 (by decide)]; exact hf.2.1, by rw [g1 49 (by decide)]; exact hf.2.2.1, by rw [g1 49 (by decide)]; exact hf.2.2.2⟩
        refine am_Wp_bl mfM_morningsOf [10] 40 _ _ _ _ _ ?_
        (repeat ((conv => whnf); (first | refine zo0 ?_ | refine zo1 ?_ | refine br_z ?_ | refine br_o ?_ | refine br_zn ?_ | refine br_on ?_ | refine nz2 ?_ | refine nz6 ?_ | refine nz32 ?_ | refine And.intro (by assumption) ?_))); (conv => whnf)
        refine ⟨fun h1 => ?_, fun h1 => absurd (nI_le (a := 12) (by omega) (by omega)) h1⟩
        (repeat ((conv => whnf); (first | refine zo0 ?_ | refine zo1 ?_ | refine br_z ?_ | refine br_o ?_ | refine br_zn ?_ | refine br_on ?_ | refine nz2 ?_ | refine nz6 ?_ | refine nz32 ?_ | refine And.intro (by assumption) ?_))); (conv => whnf)
        refine ⟨pM (vpl v) sd k, vev v, allp, 47, by decide +kernel, by decide, hP, hE, p1, em_im (im_fq hi f1) hv, by rw [g1 49 (by decide), h15]; exact prx_0, fun D2 g f2 w2 y2 => ?_⟩
        have kk := hK D2 (fq_tr f1 (fq_fg f2))
        have ok := mw_run_ok (pr := allp) hP hE 48
        have p2 := pm_fg p1 f2
        have e24 : D2 49 24 = nI (mW (pM (vpl v) sd k) (vev v) allp) := by obtain ⟨aL, a16, a17, a18, a19, a20, a21, a22, a23, a24, a25, a26, a27⟩ := w2; exact a24
        (repeat ((conv => whnf); (first | refine zo0 ?_ | refine zo1 ?_ | refine br_z ?_ | refine br_o ?_ | refine br_zn ?_ | refine br_on ?_ | refine nz2 ?_ | refine nz6 ?_ | refine nz32 ?_ | refine And.intro (by assumption) ?_))); (conv => whnf)
        rw [c0]
        refine ⟨fun h2 => ?_, fun h2 => ?_⟩
        · (repeat ((conv => whnf); (first | refine zo0 ?_ | refine zo1 ?_ | refine br_z ?_ | refine br_o ?_ | refine br_zn ?_ | refine br_on ?_ | refine nz2 ?_ | refine nz6 ?_ | refine nz32 ?_ | refine And.intro (by assumption) ?_))); (conv => whnf)
          rw [e24]
          unfold aMorn at kk
          rw [if_neg h2] at kk
          exact kk
        · (repeat ((conv => whnf); (first | refine zo0 ?_ | refine zo1 ?_ | refine br_z ?_ | refine br_o ?_ | refine br_zn ?_ | refine br_on ?_ | refine nz2 ?_ | refine nz6 ?_ | refine nz32 ?_ | refine And.intro (by assumption) ?_))); (conv => whnf)
          refine ⟨pM (vpl v) sd k, mw_run (pM (vpl v) sd k) (vev v) allp 48, fun d hd => ⟨(p2.2.2.2.2.1 d hd).1, (w2.1 d hd).1, (ok.2.2.2.2.2.2.2.2 d hd).1, (hP.2.2.2.2.2.1 d hd).1⟩, ?_⟩
          (repeat ((conv => whnf); (first | refine zo0 ?_ | refine zo1 ?_ | refine br_z ?_ | refine br_o ?_ | refine br_zn ?_ | refine br_on ?_ | refine nz2 ?_ | refine nz6 ?_ | refine nz32 ?_ | refine And.intro (by assumption) ?_))); (conv => whnf)
          unfold aMorn at kk
          rw [if_pos h2] at kk
          exact kk
      | succ m ih =>
        intro i D1 D' hi' hf h15 hp g1 g2
        have ec : (nI i).toNatClampNeg = i := nI_clamp (by omega)
        have hin : vp_in (nI i) 12 := vp_in_nI (by omega) (by decide)
        have fin : ∀ (now x : Int32), now = lot sd (min (i + 1) k) → x = nI (pM (vpl v) sd k 1 i) → am_Wp false 0 cdM_morningsOf fnM_morningsOf K 10 [some (.ref 49), some (.int sd), some (.int (nI k)), some (.int (nI c)), some (.int now), some (.int (nI i + 1))] [] (am_up D' 59 i x) L := by
          intro now x hnow hx
          rw [hnow, nI_1]
          refine ih (i + 1) D1 _ (by omega) hf h15 hp (fun q hq => (am_up_ne hq).trans (g1 q hq)) (fun d hd => ?_)
          rw [am_up_eq]
          unfold upd
          by_cases ed : d = i
          · rw [if_pos ed, ed]; exact hx
          · rw [if_neg ed]; exact g2 d (by omega)
        refine am_Wp_bl mfM_morningsOf [10] 60 _ _ _ _ _ ?_
        (repeat ((conv => whnf); (first | refine zo0 ?_ | refine zo1 ?_ | refine br_z ?_ | refine br_o ?_ | refine br_zn ?_ | refine br_on ?_ | refine nz2 ?_ | refine nz6 ?_ | refine nz32 ?_ | refine And.intro (by assumption) ?_))); (conv => whnf)
        refine ⟨fun h1 => absurd h1 (nI_ge (b := 12) (by omega) (by omega)), fun h1 => ?_⟩
        (repeat ((conv => whnf); (first | refine zo0 ?_ | refine zo1 ?_ | refine br_z ?_ | refine br_o ?_ | refine br_zn ?_ | refine br_on ?_ | refine nz2 ?_ | refine nz6 ?_ | refine nz32 ?_ | refine And.intro (by assumption) ?_))); (conv => whnf)
        rw [nI_leI (by omega) (by omega)]
        refine ⟨fun h2 => ?_, fun h2 => ?_⟩
        · (repeat ((conv => whnf); (first | refine zo0 ?_ | refine zo1 ?_ | refine br_z ?_ | refine br_o ?_ | refine br_zn ?_ | refine br_on ?_ | refine nz2 ?_ | refine nz6 ?_ | refine nz32 ?_ | refine And.intro (by assumption) ?_))); (conv => whnf)
          refine ⟨fun _ => ?_, fun q => absurd (nI_le h2 (by omega)) q⟩
          (repeat ((conv => whnf); (first | refine zo0 ?_ | refine zo1 ?_ | refine br_z ?_ | refine br_o ?_ | refine br_zn ?_ | refine br_on ?_ | refine nz2 ?_ | refine nz6 ?_ | refine nz32 ?_ | refine And.intro (by assumption) ?_))); (conv => whnf)
          rw [ec]
          refine fin _ _ (by rw [Nat.min_eq_right h2, Nat.min_eq_right (by omega)]) ?_
          show 0 = nI (if i < k then lotW (lot sd (i + 1)) else 0)
          rw [if_neg (by omega), nI_0]
        · have e1 : (1103515245 : Int32) * lot sd (min i k) + 12345 = lot sd (min (i + 1) k) := by
            rw [Nat.min_eq_left (by omega), Nat.min_eq_left (by omega), lot]
          (repeat ((conv => whnf); (first | refine zo0 ?_ | refine zo1 ?_ | refine br_z ?_ | refine br_o ?_ | refine br_zn ?_ | refine br_on ?_ | refine nz2 ?_ | refine nz6 ?_ | refine nz32 ?_ | refine And.intro (by assumption) ?_))); (conv => whnf)
          refine ⟨fun q => absurd q (nI_ge (by omega) (by omega)), fun _ => ?_⟩
          (repeat ((conv => whnf); (first | refine zo0 ?_ | refine zo1 ?_ | refine br_z ?_ | refine br_o ?_ | refine br_zn ?_ | refine br_on ?_ | refine nz2 ?_ | refine nz6 ?_ | refine nz32 ?_ | refine And.intro (by assumption) ?_))); (conv => whnf)
          rw [ec, e1, lot_eq]
          refine fin _ _ rfl ?_
          show _ = nI (if i < k then lotW (lot sd (i + 1)) else 0)
          rw [if_pos (by omega), Nat.min_eq_left (by omega)]
    refine ⟨rfl, am_Wp_bl mfM_morningsOf [10] 40 _ _ _ _ _ ?_⟩
    (repeat ((conv => whnf); (first | refine zo0 ?_ | refine zo1 ?_ | refine br_z ?_ | refine br_o ?_ | refine br_zn ?_ | refine br_on ?_ | refine nz2 ?_ | refine nz6 ?_ | refine nz32 ?_ | refine And.intro (by assumption) ?_))); (conv => whnf)
    refine ⟨v, hv, hi, fun D1 f1 r1 p1 n1 _ => ?_⟩
    (repeat ((conv => whnf); (first | refine zo0 ?_ | refine zo1 ?_ | refine br_z ?_ | refine br_o ?_ | refine br_zn ?_ | refine br_on ?_ | refine nz2 ?_ | refine nz6 ?_ | refine nz32 ?_ | refine And.intro (by assumption) ?_))); (conv => whnf)
    have res := loop 12 0 D1 D1 (by omega) (fq_fa f1) n1 p1 (fun _ _ => rfl) (fun d hd => absurd hd (by omega))
    rw [Nat.min_eq_left (by omega), lot] at res
    exact res
  · exact absurd h id
theorem clM_morningsOf (l : Launch) : ∀ (a : Nat) (ins : Instr) (b dd : Nat), csM_morningsOf[a]? = some (ins, b, dd) → am_Call l yM_morningsOf.cls 6 ins b dd (fnM_morningsOf a) := by
  intro a ins b dd h
  match a, h with
  | 0, h => cases h; exact am_callV (T := F_11) (N := 52) (okM_asTold l) wcM_asTold (am_m5 (i := 116) rfl rfl) wiM_asTold wsM_asTold inM rfl (by decide) (by decide +kernel) (by decide) (by decide)
  | 1, h => cases h; exact am_callV (T := F_11) (N := 52) (okM_runs l) wcM_runs (am_m5 (i := 120) rfl rfl) wiM_runs wsM_runs inM rfl (by decide) (by decide +kernel) (by decide) (by decide)
  | 2, h => cases h; exact am_callV (T := F_11) (N := 52) (okM_manyShort l) wcM_manyShort (am_m5 (i := 229) rfl rfl) wiM_manyShort wsM_manyShort inM rfl (by decide) (by decide +kernel) (by decide) (by decide)
  | k + 3, h => simp [csM_morningsOf] at h
theorem okM_morningsOf (l : Launch) : am_Ok l yM_morningsOf prog_13_method_80_code 6 (some .int) 6 spM_morningsOf := am_ok_of (by decide +kernel) flM_ok kiM_ok klM_ok ckM_morningsOf (clM_morningsOf l) wpM_morningsOf
def fnM_lowest : Nat → am_Sp := fun _ => am_no
theorem mfM_lowest : ∀ a, am_mono (fnM_lowest a) := fun _ => am_no_mono
def spM_lowest : am_Sp := fun as D L K => match as with
  | [.long x, .long y, .int z] => ∃ a b c : Nat, x = lN a ∧ y = lN b ∧ z = nI c ∧ a < 2 ^ 62 ∧ 0 < b ∧ b < 2 ^ 62 ∧ c < 2 ∧ K (some (.long (lN (if c = 0 then a / Nat.gcd a b else b / Nat.gcd a b)))) D L
  | _ => False
theorem moM_lowest : am_mono spM_lowest := by
  intro as D L K K' hK h
  unfold spM_lowest at h ⊢
  split at h
  · obtain ⟨a, b, c, h1, h2, h3, h4, h5, h6, h7, h8⟩ := h
    exact ⟨a, b, c, h1, h2, h3, h4, h5, h6, h7, hK _ _ _ h8⟩
  · exact h
theorem lcmp0 (x y : Int64) : lg_cmp x y = 0 ↔ x = y := by
  unfold lg_cmp
  by_cases h : x > y
  · rw [if_pos h]
    constructor
    · intro q; exact absurd q (by decide)
    · intro q; rw [q] at h; exact absurd h (Int64.lt_irrefl)
  · rw [if_neg h]
    by_cases h2 : x = y
    · rw [if_pos h2]; exact ⟨fun _ => h2, fun _ => rfl⟩
    · rw [if_neg h2]
      exact ⟨fun q => absurd q (by decide), fun q => absurd q h2⟩
theorem lN_z : lN 0 = 0 := by decide +kernel
theorem wpM_lowest : ∀ (as : List Value) (D : am_D) (L : am_L) (K : am_K), spM_lowest as D L K → am_fit 11 as = true ∧ am_Wp false 0 cdM_lowest fnM_lowest K 0 (am_lo 11 as) [] D L := by
  intro as D L K h
  unfold spM_lowest at h
  split at h
  · obtain ⟨a, b, c, rfl, rfl, rfl, ha, hb0, hb, hc, hK⟩ := h
    have c0 : nI c = 0 ↔ c = 0 := by rw [← nI_0, nI_eq (by omega) (by omega)]
    have loop : ∀ (m x y : Nat) (k9 k10 : Option Value), y ≤ m → x < 2 ^ 62 → y < 2 ^ 62 → 0 < Nat.gcd x y → Nat.gcd x y = Nat.gcd a b → am_Wp false 0 cdM_lowest fnM_lowest K 6 [some (.long (lN a)), none, some (.long (lN b)), none, some (.int (nI c)), some (.long (lN x)), none, some (.long (lN y)), none, k9, k10] [] D L := by
      intro m
      induction m with
      | zero =>
        intro x y k9 k10 hm hx hy hg he
        have ey : y = 0 := by omega
        subst ey
        rw [Nat.gcd_zero_right] at he hg
        refine am_Wp_bl mfM_lowest [6] 40 _ _ _ _ _ ?_
        (repeat ((conv => whnf); (first | refine zo0 ?_ | refine zo1 ?_ | refine br_z ?_ | refine br_o ?_ | refine br_zn ?_ | refine br_on ?_ | refine nz2 ?_ | refine nz6 ?_ | refine nz32 ?_ | refine And.intro (by assumption) ?_))); (conv => whnf)
        rw [c0]
        refine ⟨fun h2 => ?_, fun h2 => ?_⟩
        · (repeat ((conv => whnf); (first | refine zo0 ?_ | refine zo1 ?_ | refine br_z ?_ | refine br_o ?_ | refine br_zn ?_ | refine br_on ?_ | refine nz2 ?_ | refine nz6 ?_ | refine nz32 ?_ | refine And.intro (by assumption) ?_))); (conv => whnf)
          refine ⟨fun q => ?_, ?_⟩
          · rw [← lN_z, pk_lEQ (by omega) (by omega)] at q; omega
          · (repeat ((conv => whnf); (first | refine zo0 ?_ | refine zo1 ?_ | refine br_z ?_ | refine br_o ?_ | refine br_zn ?_ | refine br_on ?_ | refine nz2 ?_ | refine nz6 ?_ | refine nz32 ?_ | refine And.intro (by assumption) ?_))); (conv => whnf)
            rw [pk_lDiv (by omega) hg (by omega), he]
            rw [if_neg h2] at hK
            exact hK
        · (repeat ((conv => whnf); (first | refine zo0 ?_ | refine zo1 ?_ | refine br_z ?_ | refine br_o ?_ | refine br_zn ?_ | refine br_on ?_ | refine nz2 ?_ | refine nz6 ?_ | refine nz32 ?_ | refine And.intro (by assumption) ?_))); (conv => whnf)
          refine ⟨fun q => ?_, ?_⟩
          · rw [← lN_z, pk_lEQ (by omega) (by omega)] at q; omega
          · (repeat ((conv => whnf); (first | refine zo0 ?_ | refine zo1 ?_ | refine br_z ?_ | refine br_o ?_ | refine br_zn ?_ | refine br_on ?_ | refine nz2 ?_ | refine nz6 ?_ | refine nz32 ?_ | refine And.intro (by assumption) ?_))); (conv => whnf)
            rw [pk_lDiv (by omega) hg (by omega), he]
            rw [if_pos h2] at hK
            exact hK
      | succ m ih =>
        intro x y k9 k10 hm hx hy hg he
        by_cases ey : y = 0
        · exact ih x y k9 k10 (by omega) hx hy hg he
        · have hyl := Nat.mod_lt x (show 0 < y by omega)
          refine am_Wp_bl mfM_lowest [6] 40 _ _ _ _ _ ?_
          (repeat ((conv => whnf); (first | refine zo0 ?_ | refine zo1 ?_ | refine br_z ?_ | refine br_o ?_ | refine br_zn ?_ | refine br_on ?_ | refine nz2 ?_ | refine nz6 ?_ | refine nz32 ?_ | refine And.intro (by assumption) ?_))); (conv => whnf)
          rw [lcmp0]
          refine ⟨fun h1 => ?_, fun h1 => ?_⟩
          · rw [← lN_z, pk_lEQ (by omega) (by omega)] at h1; exact absurd h1 ey
          · (repeat ((conv => whnf); (first | refine zo0 ?_ | refine zo1 ?_ | refine br_z ?_ | refine br_o ?_ | refine br_zn ?_ | refine br_on ?_ | refine nz2 ?_ | refine nz6 ?_ | refine nz32 ?_ | refine And.intro (by assumption) ?_))); (conv => whnf)
            · rw [pk_lRem (by omega) (by omega) (by omega)]
              have e2 : Nat.gcd y (x % y) = Nat.gcd x y := by rw [Nat.gcd_comm x y, Nat.gcd_rec y x, Nat.gcd_comm]
              exact ih y (x % y) _ _ (by omega) hy (by omega) (by rw [e2]; exact hg) (by rw [e2]; exact he)
    refine ⟨rfl, am_Wp_bl mfM_lowest [6] 40 _ _ _ _ _ ?_⟩
    (repeat ((conv => whnf); (first | refine zo0 ?_ | refine zo1 ?_ | refine br_z ?_ | refine br_o ?_ | refine br_zn ?_ | refine br_on ?_ | refine nz2 ?_ | refine nz6 ?_ | refine nz32 ?_ | refine And.intro (by assumption) ?_))); (conv => whnf)
    exact loop b a b none none (Nat.le_refl b) ha hb (Nat.gcd_pos_of_pos_right _ hb0) rfl
  · exact absurd h id
theorem clM_lowest (l : Launch) : ∀ (a : Nat) (ins : Instr) (b dd : Nat), csM_lowest[a]? = some (ins, b, dd) → am_Call l yM_lowest.cls 0 ins b dd (fnM_lowest a) := by
  intro a ins b dd h
  match a, h with
  | k + 0, h => simp [csM_lowest] at h
theorem okM_lowest (l : Launch) : am_Ok l yM_lowest prog_13_method_7_code 11 (some .long) 0 spM_lowest := am_ok_of (by decide +kernel) flM_ok kiM_ok klM_ok ckM_lowest (clM_lowest l) wpM_lowest
