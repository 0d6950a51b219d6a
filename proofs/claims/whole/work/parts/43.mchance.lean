def fnM_chanceOf : Nat → am_Sp := fun a => match a with
  | 0 => spM_asTold
  | 1 => spM_isIn
  | 2 => spM_runs
  | 3 => spM_wanting
  | 4 => spM_lowest
  | _ => am_no
theorem mfM_chanceOf : ∀ a, am_mono (fnM_chanceOf a) := fun a => match a with
  | 0 => moM_asTold
  | 1 => moM_isIn
  | 2 => moM_runs
  | 3 => moM_wanting
  | 4 => moM_lowest
  | _ + 5 => am_no_mono
/-! chances -/
def chw (c s : Nat) : Nat → Nat
  | 0 => 1
  | e + 1 => chw c s e * (if s / 2 ^ e % 2 = 0 then c else 16 - c)
theorem chw_le {c s : Nat} (hc : c ≤ 16) : ∀ e, chw c s e ≤ 16 ^ e
  | 0 => Nat.le_refl 1
  | e + 1 => by
    rw [chw, Nat.pow_succ]
    exact Nat.mul_le_mul (chw_le hc e) (by split <;> omega)
theorem chw_lt {c s e : Nat} (hc : c ≤ 16) (he : e ≤ 8) : chw c s e ≤ 4294967296 := Nat.le_trans (chw_le hc e) (Nat.le_trans (Nat.pow_le_pow_right (by decide) he) (by decide))
def chp (s : Nat) : Nat → Bool := fun i => decide (s / 2 ^ i % 2 = 0)
theorem prx_chp {s : Nat} (h : s < 512) : prx (nI s) (chp s) := fun i hi => by
  unfold chp
  exact decide_eq_decide.mpr (bit_nI i (by omega) s h).symm
def chd (v : vs_T) (d : Nat) (pr : Nat → Bool) : Bool := decide (mw_run (vpl v) (vev v) pr 48 1 d = vpl v 1 d)
def chs (v : vs_T) (c d : Nat) : Nat → Nat
  | 0 => 0
  | s + 1 => chs v c d s + (if chd v d (chp s) = true then chw c s (vn v 0 6) else 0)
theorem chs_le {v : vs_T} {c d : Nat} (hc : c ≤ 16) (hn : vn v 0 6 ≤ 8) : ∀ s, chs v c d s ≤ s * 4294967296
  | 0 => Nat.zero_le _
  | s + 1 => by
    have h1 := chs_le (d := d) hc hn s
    have h2 := chw_lt (s := s) hc hn
    rw [chs, Nat.succ_mul]
    refine Nat.add_le_add h1 ?_
    split
    · exact h2
    · exact Nat.zero_le _
def aCh (v : vs_T) (c d w : Nat) : Int64 := lN (if w = 0 then chs v c d (2 ^ vn v 0 6) / Nat.gcd (chs v c d (2 ^ vn v 0 6)) (2 ^ (4 * vn v 0 6)) else 2 ^ (4 * vn v 0 6) / Nat.gcd (chs v c d (2 ^ vn v 0 6)) (2 ^ (4 * vn v 0 6)))
theorem lcmp_le (x y : Int64) : lg_cmp x y ≤ 0 ↔ ¬ y < x := by
  unfold lg_cmp
  by_cases h : x > y
  · rw [if_pos h]
    exact ⟨fun q => absurd q (by decide), fun q => absurd h q⟩
  · rw [if_neg h]
    refine ⟨fun _ => h, fun _ => ?_⟩
    split <;> decide
theorem ch_shl : ∀ n, n < 9 → (1 : Int32) <<< (nI n &&& 31) = nI (2 ^ n) := by decide +kernel
theorem ch_shll : ∀ n, n < 9 → (1 : Int64) <<< (((4 : Int32) * nI n).toInt64 &&& 63) = lN (2 ^ (4 * n)) := by decide +kernel
theorem ch_p2 : ∀ n, n < 9 → 2 ^ n ≤ 256 := by decide +kernel
theorem ch_p8 : ∀ n, n < 9 → 2 ^ (4 * n) ≤ 4294967296 := by decide +kernel
def spM_chanceOf : am_Sp := fun as D L K => match as with
  | [.ref 49, .int x, .int y, .int z] => ∃ (v : vs_T) (c d w : Nat), vok v ∧ im D v ∧ x = nI c ∧ c ≤ 16 ∧ y = nI d ∧ d < 12 ∧ z = nI w ∧ w < 2 ∧ ∀ D', fq D D' → K (some (.long (aCh v c d w))) D' L
  | _ => False
theorem moM_chanceOf : am_mono spM_chanceOf := by
  intro as D L K K' hK h
  unfold spM_chanceOf at h ⊢
  split at h
  · obtain ⟨z0, z1, z2, z3, z4, z5, z6, z7, z8, z9, z10, z11, hz⟩ := h
    exact ⟨z0, z1, z2, z3, z4, z5, z6, z7, z8, z9, z10, z11, fun D' q => hK _ _ _ (hz D' q)⟩
  · exact h
theorem wpM_chanceOf : ∀ (as : List Value) (D : am_D) (L : am_L) (K : am_K), spM_chanceOf as D L K → am_fit 10 as = true ∧ am_Wp false 0 cdM_chanceOf fnM_chanceOf K 0 (am_lo 10 as) [] D L := by
  intro as D L K h
  unfold spM_chanceOf at h
  split at h
  · obtain ⟨v, c, d, w, hv, hi, rfl, hc, rfl, hd, rfl, hw, hK⟩ := h
    obtain ⟨n, n1, n2, n3⟩ := hv.2.2.2.2.2.1
    have en : vn v 0 6 = n := vn_nI n2 (by omega)
    have e7 : ∀ D' : am_D, fq D D' → D' 49 7 = nI n := fun D' hf => by rw [hf.2.1, hi.2.2.2.1, n2]
    have hP := vpl_ok hv
    have hE := vev_ok hv
    have l2 := ch_p2 n (by omega)
    have sle : ∀ s, s ≤ 2 ^ n → chs v c d s ≤ 1099511627776 := fun s hs => by
      have := chs_le (d := d) hc (show vn v 0 6 ≤ 8 by omega) s
      omega
    have inner : ∀ (s : Nat), s < 2 ^ n → ∀ (D' : am_D), fq D D' → pm D' (vpl v) → (∀ (D2 : am_D) (k9 : Option Value), fq D D2 → pm D2 (vpl v) → am_Wp false 0 cdM_chanceOf fnM_chanceOf K 10 [some (.ref 49), some (.int (nI c)), some (.int (nI d)), some (.int (nI w)), some (.long (lN (chs v c d (s + 1)))), none, some (.int (nI (s + 1))), some (.long (lN (chw c s n))), none, k9] [] D2 L) →
        ∀ (m e : Nat), e + m = n → am_Wp false 0 cdM_chanceOf fnM_chanceOf K 27 [some (.ref 49), some (.int (nI c)), some (.int (nI d)), some (.int (nI w)), some (.long (lN (chs v c d s))), none, some (.int (nI s)), some (.long (lN (chw c s e))), none, some (.int (nI e))] [] D' L := by
      intro s hs D' hf hp hout m
      have ew := sle s (by omega)
      induction m with
      | zero =>
        intro e he
        have ee : e = n := by omega
        subst ee
        have lw := chw_lt (s := s) hc n1
        have es : chs v c d (s + 1) = chs v c d s + (if chd v d (chp s) = true then chw c s e else 0) := by rw [chs, en]
        refine am_Wp_bl mfM_chanceOf [10] 60 _ _ _ _ _ ?_
        (repeat ((conv => whnf); (first | refine zo0 ?_ | refine zo1 ?_ | refine br_z ?_ | refine br_o ?_ | refine br_zn ?_ | refine br_on ?_ | refine nz2 ?_ | refine nz6 ?_ | refine nz32 ?_ | refine And.intro (by assumption) ?_))); (conv => whnf)
        rw [e7 D' hf]
        refine ⟨fun h1 => ?_, fun h1 => absurd (nI_le (by omega) (by omega)) h1⟩
        (repeat ((conv => whnf); (first | refine zo0 ?_ | refine zo1 ?_ | refine br_z ?_ | refine br_o ?_ | refine br_zn ?_ | refine br_on ?_ | refine nz2 ?_ | refine nz6 ?_ | refine nz32 ?_ | refine And.intro (by assumption) ?_))); (conv => whnf)
        rw [lcmp_le, ← lN_z, pk_lLT (by omega) (by omega)]
        refine ⟨fun h2 => ?_, fun h2 => ?_⟩
        · (repeat ((conv => whnf); (first | refine zo0 ?_ | refine zo1 ?_ | refine br_z ?_ | refine br_o ?_ | refine br_zn ?_ | refine br_on ?_ | refine nz2 ?_ | refine nz6 ?_ | refine nz32 ?_ | refine And.intro (by assumption) ?_))); (conv => whnf)
          rw [nI_1]
          have res := hout D' (some (.int (nI e))) hf hp
          rw [es, show chw c s e = 0 by omega, ite_self, Nat.add_zero] at res
          rw [show chw c s e = 0 by omega]
          exact res
        · (repeat ((conv => whnf); (first | refine zo0 ?_ | refine zo1 ?_ | refine br_z ?_ | refine br_o ?_ | refine br_zn ?_ | refine br_on ?_ | refine nz2 ?_ | refine nz6 ?_ | refine nz32 ?_ | refine And.intro (by assumption) ?_))); (conv => whnf)
          have f1 : fq D (am_up D' 49 15 (nI s)) := fq_tr hf (fq_up49 (by decide) fq_rf)
          have p1 : pm (am_up D' 49 15 (nI s)) (vpl v) := by
            obtain ⟨x1, x2, x3, x4, x5, x6⟩ := hp
            refine ⟨?_, ?_, ?_, ?_, ?_, ?_⟩
            · rw [am_up_eq]; exact x1
            · rw [am_up_eq]; exact x2
            · rw [am_up_eq]; exact x3
            · rw [am_up_ne (by decide)]; exact x4
            · rw [am_up_ne (by decide), am_up_ne (by decide)]; exact x5
            · rw [am_up_ne (by decide)]; exact x6
          refine ⟨vpl v, vev v, chp s, 47, by decide +kernel, by decide, hP, hE, p1, em_im (im_fq hi f1) hv, by rw [am_up_eq]; exact prx_chp (by omega), fun D2 g f2 w2 y2 => ?_⟩
          have ok := (mw_run_ok (pr := chp s) hP hE 48).2.2.2.2.2.2.2.2 d hd
          have p2 := pm_fg p1 f2
          have pb := (hP.2.2.2.2.2.1 d hd).1
          have res := hout D2 (some (.int (nI e))) (fq_tr f1 (fq_fg f2)) p2
          (repeat ((conv => whnf); (first | refine zo0 ?_ | refine zo1 ?_ | refine br_z ?_ | refine br_o ?_ | refine br_zn ?_ | refine br_on ?_ | refine nz2 ?_ | refine nz6 ?_ | refine nz32 ?_ | refine And.intro (by assumption) ?_))); (conv => whnf)
          refine ⟨d, rfl, hd, ?_⟩
          (repeat ((conv => whnf); (first | refine zo0 ?_ | refine zo1 ?_ | refine br_z ?_ | refine br_o ?_ | refine br_zn ?_ | refine br_on ?_ | refine nz2 ?_ | refine nz6 ?_ | refine nz32 ?_ | refine And.intro (by assumption) ?_))); (conv => whnf)
          rw [(p2.2.2.2.2.1 d hd).1, (w2.1 d hd).1, pk_sub ok.1]
          have z0 : nI (vpl v 1 d - mw_run (vpl v) (vev v) (chp s) 48 1 d) = 0 ↔ mw_run (vpl v) (vev v) (chp s) 48 1 d = vpl v 1 d := by
            rw [← nI_0, nI_eq (by omega) (by omega)]
            have := ok.1
            omega
          rw [z0]
          refine ⟨fun h3 => ?_, fun h3 => ?_⟩
          · (repeat ((conv => whnf); (first | refine zo0 ?_ | refine zo1 ?_ | refine br_z ?_ | refine br_o ?_ | refine br_zn ?_ | refine br_on ?_ | refine nz2 ?_ | refine nz6 ?_ | refine nz32 ?_ | refine And.intro (by assumption) ?_))); (conv => whnf)
            rw [nI_1, ← lN_z, lN_add]
            rw [es, if_neg (by unfold chd; rw [decide_eq_true_iff]; exact h3)] at res
            exact res
          · (repeat ((conv => whnf); (first | refine zo0 ?_ | refine zo1 ?_ | refine br_z ?_ | refine br_o ?_ | refine br_zn ?_ | refine br_on ?_ | refine nz2 ?_ | refine nz6 ?_ | refine nz32 ?_ | refine And.intro (by assumption) ?_))); (conv => whnf)
            rw [nI_1, lN_add]
            rw [es, if_pos (by unfold chd; rw [decide_eq_true_iff]; exact h3)] at res
            exact res
      | succ m ih =>
        intro e he
        have b := bit_nI e (by omega) s (by omega)
        refine am_Wp_bl mfM_chanceOf [27] 60 _ _ _ _ _ ?_
        (repeat ((conv => whnf); (first | refine zo0 ?_ | refine zo1 ?_ | refine br_z ?_ | refine br_o ?_ | refine br_zn ?_ | refine br_on ?_ | refine nz2 ?_ | refine nz6 ?_ | refine nz32 ?_ | refine And.intro (by assumption) ?_))); (conv => whnf)
        rw [e7 D' hf]
        refine ⟨fun h1 => absurd h1 (nI_ge (by omega) (by omega)), fun h1 => ?_⟩
        (repeat ((conv => whnf); (first | refine zo0 ?_ | refine zo1 ?_ | refine br_z ?_ | refine br_o ?_ | refine br_zn ?_ | refine br_on ?_ | refine nz2 ?_ | refine nz6 ?_ | refine nz32 ?_ | refine And.intro (by assumption) ?_))); (conv => whnf)
        rw [b]
        refine ⟨fun h2 => ?_, fun h2 => ?_⟩
        · (repeat ((conv => whnf); (first | refine zo0 ?_ | refine zo1 ?_ | refine br_z ?_ | refine br_o ?_ | refine br_zn ?_ | refine br_on ?_ | refine nz2 ?_ | refine nz6 ?_ | refine nz32 ?_ | refine And.intro (by assumption) ?_))); (conv => whnf)
          rw [nI_l (by omega), lN_mul, nI_1]
          have res := ih (e + 1) (by omega)
          rw [chw, if_pos h2] at res
          exact res
        · (repeat ((conv => whnf); (first | refine zo0 ?_ | refine zo1 ?_ | refine br_z ?_ | refine br_o ?_ | refine br_zn ?_ | refine br_on ?_ | refine nz2 ?_ | refine nz6 ?_ | refine nz32 ?_ | refine And.intro (by assumption) ?_))); (conv => whnf)
          rw [show (16 : Int32) = nI 16 by decide +kernel, pk_sub hc, nI_l (by omega), lN_mul, nI_1]
          have res := ih (e + 1) (by omega)
          rw [chw, if_neg h2] at res
          exact res
    have loop : ∀ (m s : Nat) (D' : am_D) (k7 k8 k9 : Option Value), s + m = 2 ^ n → fq D D' → pm D' (vpl v) → am_Wp false 0 cdM_chanceOf fnM_chanceOf K 10 [some (.ref 49), some (.int (nI c)), some (.int (nI d)), some (.int (nI w)), some (.long (lN (chs v c d s))), none, some (.int (nI s)), k7, k8, k9] [] D' L := by
      intro m
      induction m with
      | zero =>
        intro s D' k7 k8 k9 hs hf hp
        have ew := sle s (by omega)
        have p8 := ch_p8 n (by omega)
        refine am_Wp_bl mfM_chanceOf [10] 60 _ _ _ _ _ ?_
        (repeat ((conv => whnf); (first | refine zo0 ?_ | refine zo1 ?_ | refine br_z ?_ | refine br_o ?_ | refine br_zn ?_ | refine br_on ?_ | refine nz2 ?_ | refine nz6 ?_ | refine nz32 ?_ | refine And.intro (by assumption) ?_))); (conv => whnf)
        rw [e7 D' hf, ch_shl n (by omega)]
        refine ⟨fun h1 => ?_, fun h1 => absurd (nI_le (by omega) (by omega)) h1⟩
        (repeat ((conv => whnf); (first | refine zo0 ?_ | refine zo1 ?_ | refine br_z ?_ | refine br_o ?_ | refine br_zn ?_ | refine br_on ?_ | refine nz2 ?_ | refine nz6 ?_ | refine nz32 ?_ | refine And.intro (by assumption) ?_))); (conv => whnf)
        rw [e7 D' hf, ch_shll n (by omega)]
        refine ⟨chs v c d s, 2 ^ (4 * n), w, rfl, rfl, rfl, by omega, Nat.two_pow_pos _, by omega, hw, ?_⟩
        (repeat ((conv => whnf); (first | refine zo0 ?_ | refine zo1 ?_ | refine br_z ?_ | refine br_o ?_ | refine br_zn ?_ | refine br_on ?_ | refine nz2 ?_ | refine nz6 ?_ | refine nz32 ?_ | refine And.intro (by assumption) ?_))); (conv => whnf)
        have res := hK D' hf
        unfold aCh at res
        rw [en] at res
        rw [show s = 2 ^ n by omega]
        exact res
      | succ m ih =>
        intro s D' k7 k8 k9 hs hf hp
        refine am_Wp_bl mfM_chanceOf [27] 60 _ _ _ _ _ ?_
        (repeat ((conv => whnf); (first | refine zo0 ?_ | refine zo1 ?_ | refine br_z ?_ | refine br_o ?_ | refine br_zn ?_ | refine br_on ?_ | refine nz2 ?_ | refine nz6 ?_ | refine nz32 ?_ | refine And.intro (by assumption) ?_))); (conv => whnf)
        rw [e7 D' hf, ch_shl n (by omega)]
        refine ⟨fun h1 => absurd h1 (nI_ge (by omega) (by omega)), fun h1 => ?_⟩
        (repeat ((conv => whnf); (first | refine zo0 ?_ | refine zo1 ?_ | refine br_z ?_ | refine br_o ?_ | refine br_zn ?_ | refine br_on ?_ | refine nz2 ?_ | refine nz6 ?_ | refine nz32 ?_ | refine And.intro (by assumption) ?_))); (conv => whnf)
        exact inner s (by omega) D' hf hp (fun D2 k9 f2 p2 => ih (s + 1) D2 _ _ _ (by omega) f2 p2) n 0 (by omega)
    refine ⟨rfl, am_Wp_bl mfM_chanceOf [10] 40 _ _ _ _ _ ?_⟩
    (repeat ((conv => whnf); (first | refine zo0 ?_ | refine zo1 ?_ | refine br_z ?_ | refine br_o ?_ | refine br_zn ?_ | refine br_on ?_ | refine nz2 ?_ | refine nz6 ?_ | refine nz32 ?_ | refine And.intro (by assumption) ?_))); (conv => whnf)
    refine ⟨v, hv, hi, fun D1 f1 r1 p1 n1 _ => ?_⟩
    (repeat ((conv => whnf); (first | refine zo0 ?_ | refine zo1 ?_ | refine br_z ?_ | refine br_o ?_ | refine br_zn ?_ | refine br_on ?_ | refine nz2 ?_ | refine nz6 ?_ | refine nz32 ?_ | refine And.intro (by assumption) ?_))); (conv => whnf)
    exact loop (2 ^ n) 0 D1 none none none (by omega) (fq_fa f1) p1
  · exact absurd h id
theorem clM_chanceOf (l : Launch) : ∀ (a : Nat) (ins : Instr) (b dd : Nat), csM_chanceOf[a]? = some (ins, b, dd) → am_Call l yM_chanceOf.cls 6 ins b dd (fnM_chanceOf a) := by
  intro a ins b dd h
  match a, h with
  | 0, h => cases h; exact am_callV (T := F_11) (N := 52) (okM_asTold l) wcM_asTold (am_m5 (i := 116) rfl rfl) wiM_asTold wsM_asTold inM rfl (by decide) (by decide +kernel) (by decide) (by decide)
  | 1, h => cases h; exact am_callS (okM_isIn l) wcM_isIn (am_m5 (i := 136) rfl rfl) wtM_isIn inM (by decide +kernel) (by decide) (by decide)
  | 2, h => cases h; exact am_callV (T := F_11) (N := 52) (okM_runs l) wcM_runs (am_m5 (i := 120) rfl rfl) wiM_runs wsM_runs inM rfl (by decide) (by decide +kernel) (by decide) (by decide)
  | 3, h => cases h; exact am_callV (T := F_11) (N := 52) (okM_wanting l) wcM_wanting (am_m5 (i := 146) rfl rfl) wiM_wanting wsM_wanting inM rfl (by decide) (by decide +kernel) (by decide) (by decide)
  | 4, h => cases h; exact am_callS (okM_lowest l) wcM_lowest (am_m6 (i := 81) rfl rfl) wtM_lowest inM (by decide +kernel) (by decide) (by decide)
  | k + 5, h => simp [csM_chanceOf] at h
theorem okM_chanceOf (l : Launch) : am_Ok l yM_chanceOf prog_13_method_78_code 10 (some .long) 6 spM_chanceOf := am_ok_of (by decide +kernel) flM_ok kiM_ok klM_ok ckM_chanceOf (clM_chanceOf l) wpM_chanceOf
