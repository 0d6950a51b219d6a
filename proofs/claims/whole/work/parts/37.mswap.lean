def fnM_swapOf : Nat → am_Sp := fun a => match a with
  | 0 => spM_starts
  | 1 => spM_tries
  | _ => am_no
theorem mfM_swapOf : ∀ a, am_mono (fnM_swapOf a) := fun a => match a with
  | 0 => moM_starts
  | 1 => moM_tries
  | _ + 2 => am_no_mono
/-! which two had better change places -/
def pS (P : mw_T) (a b : Nat) : mw_T := up2 (up2 P 3 a (P 3 b)) 3 b (P 3 a)
theorem pS_ok {P : mw_T} {a b : Nat} (hP : mw_pok P) (ha : a < P 0 0) (hb : b < P 0 0) : mw_pok (pS P a b) := by
  obtain ⟨q1, q2, q3, q4, q5, q6, q7⟩ := hP
  refine ⟨q1, q2, q3, q4, q5, q6, fun i hi => ?_⟩
  have e0 : pS P a b 0 0 = P 0 0 := rfl
  rw [e0] at hi
  have h1 := q7 a ha
  have h2 := q7 b hb
  have h3 := q7 i hi
  unfold pS up2
  simp only [if_true]
  by_cases x : i = b
  · simp [x]; exact h1
  · by_cases y : i = a
    · simp [x, y]; split <;> omega
    · simp [x, y]; exact h3
def mswI (P E : mw_T) (pr : Nat → Bool) (a : Nat) (o : Option (Nat × Nat × Nat)) : Nat → Option (Nat × Nat × Nat)
  | 0 => o
  | k + 1 => mpick (mswI P E pr a o k) (32 * a + (a + 1 + k)) (mN (pS P a (a + 1 + k)) E pr) (mW (pS P a (a + 1 + k)) E pr)
def msw (P E : mw_T) (pr : Nat → Bool) (n : Nat) : Nat → Option (Nat × Nat × Nat)
  | 0 => none
  | a + 1 => mswI P E pr a (msw P E pr n a) (n - (a + 1))
def aSwap (v : vs_T) : Option (Nat × Nat × Nat) := msw (vpl v) (vev v) allp (vpl v 0 0) (vpl v 0 0)
def swI (o : Option (Nat × Nat × Nat)) (c : Nat) : Int32 := match o with
  | none => -1
  | some (b, n, w) => if c = 0 then nI (b / 32) else if c = 1 then nI (b % 32) else if c = 2 then nI n else nI w
theorem mswI_ok {P E : mw_T} {pr : Nat → Bool} {a : Nat} {o : Option (Nat × Nat × Nat)} (hP : mw_pok P) (hE : mw_eok E) (ho : bok o) : ∀ k, a + 1 + k ≤ P 0 0 → bok (mswI P E pr a o k)
  | 0, _ => ho
  | k + 1, hk => by
    have h24 := hP.1
    exact mpick_ok (mswI_ok hP hE ho k (by omega)) (by omega) (mN_le _ _ _) (mW_le (pS_ok hP (by omega) (by omega)) hE)
theorem msw_ok {P E : mw_T} {pr : Nat → Bool} (hP : mw_pok P) (hE : mw_eok E) : ∀ a, a ≤ P 0 0 → bok (msw P E pr (P 0 0) a)
  | 0, _ => trivial
  | a + 1, ha => mswI_ok hP hE (msw_ok hP hE a (by omega)) _ (by omega)
def spM_swapOf : am_Sp := fun as D L K => match as with
  | [.ref 49, .int y] => ∃ (v : vs_T) (c : Nat), vok v ∧ im D v ∧ y = nI c ∧ c < 4 ∧ ∀ D', fq D D' → K (some (.int (swI (aSwap v) c))) D' L
  | _ => False
theorem moM_swapOf : am_mono spM_swapOf := by
  intro as D L K K' hK h
  unfold spM_swapOf at h ⊢
  split at h
  · obtain ⟨z0, z1, z2, z3, z4, z5, hz⟩ := h
    exact ⟨z0, z1, z2, z3, z4, z5, fun D' q => hK _ _ _ (hz D' q)⟩
  · exact h
theorem wpM_swapOf : ∀ (as : List Value) (D : am_D) (L : am_L) (K : am_K), spM_swapOf as D L K → am_fit 4 as = true ∧ am_Wp false 0 cdM_swapOf fnM_swapOf K 0 (am_lo 4 as) [] D L := by
  intro as D L K h
  unfold spM_swapOf at h
  split at h
  · obtain ⟨v, c, hv, hi, rfl, hc, hK⟩ := h
    have hP := vpl_ok hv
    have hE := vev_ok hv
    have h24 := hP.1
    have c0 : nI c = 0 ↔ c = 0 := by rw [← nI_0, nI_eq (by omega) (by omega)]
    have c1 : nI c = 1 ↔ c = 1 := by rw [← nc1, nI_eq (by omega) (by omega)]
    have c2 : nI c = 2 ↔ c = 2 := by rw [← nc2, nI_eq (by omega) (by omega)]
    obtain ⟨P, hPe⟩ : ∃ P, vpl v = P := ⟨_, rfl⟩
    rw [hPe] at hP h24
    -- what stays
    have inner : ∀ (a : Nat) (o : Option (Nat × Nat × Nat)), a < P 0 0 → bok o → (∀ (D' : am_D) (k3 : Option Value), fq D D' → D' 49 15 = 0 → pm D' P → rd D' v → (∀ i, i < 24 → D' 60 i = D' 54 i) → bm D' (mswI P (vev v) allp a o (P 0 0 - (a + 1))) → am_Wp false 0 cdM_swapOf fnM_swapOf K 6 [some (.ref 49), some (.int (nI c)), some (.int (nI (a + 1))), k3] [] D' L) →
        ∀ (m k : Nat) (D' : am_D), a + 1 + k + m = P 0 0 → fq D D' → D' 49 15 = 0 → pm D' P → rd D' v → (∀ i, i < 24 → D' 60 i = D' 54 i) → bm D' (mswI P (vev v) allp a o k) → am_Wp false 0 cdM_swapOf fnM_swapOf K 18 [some (.ref 49), some (.int (nI c)), some (.int (nI a)), some (.int (nI (a + 1 + k)))] [] D' L := by
      intro a o ha ho hout m
      induction m with
      | zero =>
        intro k D' hk hf h15 hp hr h60 hb
        refine am_Wp_bl mfM_swapOf [6] 40 _ _ _ _ _ ?_
        (repeat ((conv => whnf); (first | refine zo0 ?_ | refine zo1 ?_ | refine br_z ?_ | refine br_o ?_ | refine br_zn ?_ | refine br_on ?_ | refine nz2 ?_ | refine nz6 ?_ | refine nz32 ?_ | refine And.intro (by assumption) ?_))); (conv => whnf)
        rw [hp.1]
        refine ⟨fun h1 => ?_, fun h1 => absurd (nI_le (by omega) (by omega)) h1⟩
        (repeat ((conv => whnf); (first | refine zo0 ?_ | refine zo1 ?_ | refine br_z ?_ | refine br_o ?_ | refine br_zn ?_ | refine br_on ?_ | refine nz2 ?_ | refine nz6 ?_ | refine nz32 ?_ | refine And.intro (by assumption) ?_))); (conv => whnf)
        rw [nI_1]
        rw [show k = P 0 0 - (a + 1) by omega] at hb
        exact hout D' _ hf h15 hp hr h60 hb
      | succ m ih =>
        intro k D' hk hf h15 hp hr h60 hb
        obtain ⟨b, hb0⟩ : ∃ b, a + 1 + k = b := ⟨_, rfl⟩
        have eca : (nI a).toNatClampNeg = a := nI_clamp (by omega)
        have ecb : (nI b).toNatClampNeg = b := nI_clamp (by omega)
        have ina : vp_in (nI a) 24 := vp_in_nI (by omega) (by decide)
        have inb : vp_in (nI b) 24 := vp_in_nI (by omega) (by decide)
        have ra : D' 54 a = nI (P 3 a) := by have := hr.2.2 a (by omega); rw [hPe, if_pos ha] at this; exact this
        have rb : D' 54 b = nI (P 3 b) := by have := hr.2.2 b (by omega); rw [hPe, if_pos (by omega)] at this; exact this
        have e32 : (32 : Int32) * nI a + nI b = nI (32 * a + b) := by rw [show (32 : Int32) = nI 32 by decide +kernel, pk_mul, nI_add]
        rw [hb0]
        refine am_Wp_bl mfM_swapOf [18] 80 _ _ _ _ _ ?_
        (repeat ((conv => whnf); (first | refine zo0 ?_ | refine zo1 ?_ | refine br_z ?_ | refine br_o ?_ | refine br_zn ?_ | refine br_on ?_ | refine nz2 ?_ | refine nz6 ?_ | refine nz32 ?_ | refine And.intro (by assumption) ?_))); (conv => whnf)
        rw [hp.1]
        refine ⟨fun h1 => absurd h1 (nI_ge (by omega) (by omega)), fun h1 => ?_⟩
        (repeat ((conv => whnf); (first | refine zo0 ?_ | refine zo1 ?_ | refine br_z ?_ | refine br_o ?_ | refine br_zn ?_ | refine br_on ?_ | refine nz2 ?_ | refine nz6 ?_ | refine nz32 ?_ | refine And.intro (by assumption) ?_))); (conv => whnf)
        rw [eca, ecb, rb, show am_up D' 60 a (nI (P 3 b)) 54 = D' 54 from am_up_ne (by decide), ra, e32]
        obtain ⟨D1, hD1⟩ : ∃ D1, am_up (am_up D' 60 a (nI (P 3 b))) 60 b (nI (P 3 a)) = D1 := ⟨_, rfl⟩
        rw [hD1]
        have z1 : ∀ q, q ≠ 60 → D1 q = D' q := fun q hq => by rw [← hD1, am_up_ne hq, am_up_ne hq]
        have z2 : ∀ i, D1 60 i = if i = b then nI (P 3 a) else if i = a then nI (P 3 b) else D' 60 i := fun i => by
          rw [← hD1, am_up_eq, am_up_eq]; rfl
        have p1 : pm D1 (pS P a b) := by
          obtain ⟨x1, x2, x3, x4, x5, x6⟩ := hp
          refine ⟨?_, ?_, ?_, ?_, ?_, fun i hi' => ?_⟩
          · rw [z1 49 (by decide)]; exact x1
          · rw [z1 49 (by decide)]; exact x2
          · rw [z1 49 (by decide)]; exact x3
          · rw [z1 55 (by decide)]; exact x4
          · rw [z1 59 (by decide), z1 53 (by decide)]; exact x5
          · have hi'' : i < P 0 0 := hi'
            rw [z2 i]
            unfold pS up2
            simp only [if_true]
            by_cases y1 : i = b
            · simp [y1]
            · by_cases y2 : i = a
              · have : ¬ a = b := by omega
                simp [y2, this]
              · simp [y1, y2]
                exact x6 i hi''
        have f1 : fq D D1 := by rw [← hD1]; exact fq_tr hf (fq_up (by decide) (fq_up (by decide) fq_rf))
        refine ⟨pS P a b, vev v, allp, 32 * a + b, mswI P (vev v) allp a o k, rfl, by omega, pS_ok hP ha (by omega), hE, p1, em_im (im_fq hi f1) hv, by rw [z1 49 (by decide), h15]; exact prx_0, by unfold bm; rw [z1 49 (by decide)]; exact hb, mswI_ok hP hE ho k (by omega), fun D2 f2 b2 => ?_⟩
        have w54 : D2 54 = D' 54 := (f2.1 54 (by decide) (by omega)).trans (z1 54 (by decide))
        have w60 : D2 60 = D1 60 := f2.1 60 (by decide) (by omega)
        (repeat ((conv => whnf); (first | refine zo0 ?_ | refine zo1 ?_ | refine br_z ?_ | refine br_o ?_ | refine br_zn ?_ | refine br_on ?_ | refine nz2 ?_ | refine nz6 ?_ | refine nz32 ?_ | refine And.intro (by assumption) ?_))); (conv => whnf)
        rw [eca, ecb, w54, ra, show am_up D2 60 a (nI (P 3 a)) 54 = D2 54 from am_up_ne (by decide), w54, rb, nI_1]
        obtain ⟨D3, hD3⟩ : ∃ D3, am_up (am_up D2 60 a (nI (P 3 a))) 60 b (nI (P 3 b)) = D3 := ⟨_, rfl⟩
        rw [hD3]
        have y1 : ∀ q, q ≠ 60 → D3 q = D2 q := fun q hq => by rw [← hD3, am_up_ne hq, am_up_ne hq]
        have y60 : ∀ i, i < 24 → D3 60 i = D' 54 i := fun i hi' => by
          rw [← hD3, am_up_eq, am_up_eq]
          unfold upd
          by_cases x1 : i = b
          · rw [if_pos x1, x1, rb]
          · rw [if_neg x1]
            by_cases x2 : i = a
            · rw [if_pos x2, x2, ra]
            · rw [if_neg x2, w60, z2 i, if_neg x1, if_neg x2]
              exact h60 i hi'
        have p2 := pm_ft p1 f2
        have v4 : ∀ j, j < 16 ∨ 28 < j → j ≠ 38 → j ≠ 39 → j ≠ 40 → D3 49 j = D' 49 j := fun j q1 q2 q3 q4 => by rw [y1 49 (by decide), f2.2 j q1 q2 q3 q4, z1 49 (by decide)]
        have e3 : a + 1 + (k + 1) = b + 1 := by omega
        have res := ih (k + 1) D3 (by omega) (fq_tr (fq_tr f1 (fq_ft f2)) (by rw [← hD3]; exact fq_up (by decide) (fq_up (by decide) fq_rf))) (by rw [v4 15 (by omega) (by omega) (by omega) (by omega)]; exact h15) ?_ ?_ (fun i hi' => by rw [y60 i hi', y1 54 (by decide), w54]) ?_
        · rw [e3] at res
          exact res
        · obtain ⟨x1, x2, x3, x4, x5, x6⟩ := hp
          refine ⟨?_, ?_, ?_, ?_, fun d hd => ?_, fun i hi' => ?_⟩
          · rw [v4 4 (by omega) (by omega) (by omega) (by omega)]; exact x1
          · rw [v4 13 (by omega) (by omega) (by omega) (by omega)]; exact x2
          · rw [v4 14 (by omega) (by omega) (by omega) (by omega)]; exact x3
          · rw [y1 55 (by decide), f2.1 55 (by decide) (by omega), z1 55 (by decide)]; exact x4
          · rw [y1 59 (by decide), f2.1 59 (by decide) (by omega), z1 59 (by decide), y1 53 (by decide), f2.1 53 (by decide) (by omega), z1 53 (by decide)]; exact x5 d hd
          · rw [y60 i (by omega)]
            have := hr.2.2 i (by omega)
            rw [hPe, if_pos hi'] at this
            exact this
        · unfold rd at hr ⊢
          rw [y1 52 (by decide), f2.1 52 (by decide) (by omega), z1 52 (by decide), y1 53 (by decide), f2.1 53 (by decide) (by omega), z1 53 (by decide), v4 4 (by omega) (by omega) (by omega) (by omega), y1 54 (by decide), w54]
          exact hr
        · unfold bm
          rw [y1 49 (by decide)]
          rw [← hb0] at b2
          exact b2
    have outer : ∀ (m a : Nat) (D' : am_D) (k3 : Option Value), a + m = P 0 0 → fq D D' → D' 49 15 = 0 → pm D' P → rd D' v → (∀ i, i < 24 → D' 60 i = D' 54 i) → bm D' (msw P (vev v) allp (P 0 0) a) → am_Wp false 0 cdM_swapOf fnM_swapOf K 6 [some (.ref 49), some (.int (nI c)), some (.int (nI a)), k3] [] D' L := by
      intro m
      induction m with
      | zero =>
        intro a D' k3 ha hf h15 hp hr h60 hb
        have k := hK D' hf
        have ea : aSwap v = msw P (vev v) allp (P 0 0) a := by unfold aSwap; rw [hPe, show a = P 0 0 by omega]
        rw [ea] at k
        have ho : bok (msw P (vev v) allp (P 0 0) a) := msw_ok hP hE a (by omega)
        generalize msw P (vev v) allp (P 0 0) a = o at hb k ho
        refine am_Wp_bl mfM_swapOf [6] 60 _ _ _ _ _ ?_
        (repeat ((conv => whnf); (first | refine zo0 ?_ | refine zo1 ?_ | refine br_z ?_ | refine br_o ?_ | refine br_zn ?_ | refine br_on ?_ | refine nz2 ?_ | refine nz6 ?_ | refine nz32 ?_ | refine And.intro (by assumption) ?_))); (conv => whnf)
        rw [hp.1]
        refine ⟨fun h1 => ?_, fun h1 => absurd (nI_le (by omega) (by omega)) h1⟩
        (repeat ((conv => whnf); (first | refine zo0 ?_ | refine zo1 ?_ | refine br_z ?_ | refine br_o ?_ | refine br_zn ?_ | refine br_on ?_ | refine nz2 ?_ | refine nz6 ?_ | refine nz32 ?_ | refine And.intro (by assumption) ?_))); (conv => whnf)
        rw [hb.1]
        cases o with
        | none =>
          refine ⟨fun h1 => absurd rfl h1, fun _ => ?_⟩
          (repeat ((conv => whnf); (first | refine zo0 ?_ | refine zo1 ?_ | refine br_z ?_ | refine br_o ?_ | refine br_zn ?_ | refine br_on ?_ | refine nz2 ?_ | refine nz6 ?_ | refine nz32 ?_ | refine And.intro (by assumption) ?_))); (conv => whnf)
          exact k
        | some q =>
          obtain ⟨b, n0, w0⟩ := q
          obtain ⟨o1, o2, o3⟩ := ho
          have e38 : ¬ pI (some (b, n0, w0)) 0 = -1 := by
            intro q
            have q' : nI b = -1 := q
            have := nI_toInt (n := b) (by omega)
            rw [q'] at this
            have z : ((-1 : Int32)).toInt = -1 := by decide +kernel
            omega
          have hb38 : D' 49 38 = nI b := hb.1
          have hb39 : D' 49 39 = nI n0 := hb.2.1
          have hb40 : D' 49 40 = nI w0 := hb.2.2
          have n32 : (32 : Int32) = nI 32 := by decide +kernel
          refine ⟨fun _ => ?_, fun h1 => absurd h1 e38⟩
          (repeat ((conv => whnf); (first | refine zo0 ?_ | refine zo1 ?_ | refine br_z ?_ | refine br_o ?_ | refine br_zn ?_ | refine br_on ?_ | refine nz2 ?_ | refine nz6 ?_ | refine nz32 ?_ | refine And.intro (by assumption) ?_))); (conv => whnf)
          rw [c0]
          refine ⟨fun h1 => ?_, fun h1 => ?_⟩
          · (repeat ((conv => whnf); (first | refine zo0 ?_ | refine zo1 ?_ | refine br_z ?_ | refine br_o ?_ | refine br_zn ?_ | refine br_on ?_ | refine nz2 ?_ | refine nz6 ?_ | refine nz32 ?_ | refine And.intro (by assumption) ?_))); (conv => whnf)
            rw [c1]
            refine ⟨fun h2 => ?_, fun h2 => ?_⟩
            · (repeat ((conv => whnf); (first | refine zo0 ?_ | refine zo1 ?_ | refine br_z ?_ | refine br_o ?_ | refine br_zn ?_ | refine br_on ?_ | refine nz2 ?_ | refine nz6 ?_ | refine nz32 ?_ | refine And.intro (by assumption) ?_))); (conv => whnf)
              rw [c2]
              refine ⟨fun h3 => ?_, fun h3 => ?_⟩
              · (repeat ((conv => whnf); (first | refine zo0 ?_ | refine zo1 ?_ | refine br_z ?_ | refine br_o ?_ | refine br_zn ?_ | refine br_on ?_ | refine nz2 ?_ | refine nz6 ?_ | refine nz32 ?_ | refine And.intro (by assumption) ?_))); (conv => whnf)
                rw [hb40]
                rw [show c = 3 by omega] at k
                exact k
              · (repeat ((conv => whnf); (first | refine zo0 ?_ | refine zo1 ?_ | refine br_z ?_ | refine br_o ?_ | refine br_zn ?_ | refine br_on ?_ | refine nz2 ?_ | refine nz6 ?_ | refine nz32 ?_ | refine And.intro (by assumption) ?_))); (conv => whnf)
                rw [hb39]
                rw [h3] at k
                exact k
            · (repeat ((conv => whnf); (first | refine zo0 ?_ | refine zo1 ?_ | refine br_z ?_ | refine br_o ?_ | refine br_zn ?_ | refine br_on ?_ | refine nz2 ?_ | refine nz6 ?_ | refine nz32 ?_ | refine And.intro (by assumption) ?_))); (conv => whnf)
              rw [hb38, n32, pk_rem (by omega) (by decide) (by decide)]
              rw [h2] at k
              exact k
          · (repeat ((conv => whnf); (first | refine zo0 ?_ | refine zo1 ?_ | refine br_z ?_ | refine br_o ?_ | refine br_zn ?_ | refine br_on ?_ | refine nz2 ?_ | refine nz6 ?_ | refine nz32 ?_ | refine And.intro (by assumption) ?_))); (conv => whnf)
            rw [hb38, n32, pk_div (by omega) (by decide) (by decide)]
            rw [h1] at k
            exact k
      | succ m ih =>
        intro a D' k3 ha hf h15 hp hr h60 hb
        refine am_Wp_bl mfM_swapOf [18] 60 _ _ _ _ _ ?_
        (repeat ((conv => whnf); (first | refine zo0 ?_ | refine zo1 ?_ | refine br_z ?_ | refine br_o ?_ | refine br_zn ?_ | refine br_on ?_ | refine nz2 ?_ | refine nz6 ?_ | refine nz32 ?_ | refine And.intro (by assumption) ?_))); (conv => whnf)
        rw [hp.1]
        refine ⟨fun h1 => absurd h1 (nI_ge (by omega) (by omega)), fun h1 => ?_⟩
        (repeat ((conv => whnf); (first | refine zo0 ?_ | refine zo1 ?_ | refine br_z ?_ | refine br_o ?_ | refine br_zn ?_ | refine br_on ?_ | refine nz2 ?_ | refine nz6 ?_ | refine nz32 ?_ | refine And.intro (by assumption) ?_))); (conv => whnf)
        rw [nI_1]
        exact inner a _ (by omega) (msw_ok hP hE a (by omega)) (fun D2 k3 q1 q2 q3 q4 q5 q6 => ih (a + 1) D2 k3 (by omega) q1 q2 q3 q4 q5 q6) (P 0 0 - (a + 1)) 0 D' (by omega) hf h15 hp hr h60 hb
    refine ⟨rfl, am_Wp_bl mfM_swapOf [6] 40 _ _ _ _ _ ?_⟩
    (repeat ((conv => whnf); (first | refine zo0 ?_ | refine zo1 ?_ | refine br_z ?_ | refine br_o ?_ | refine br_zn ?_ | refine br_on ?_ | refine nz2 ?_ | refine nz6 ?_ | refine nz32 ?_ | refine And.intro (by assumption) ?_))); (conv => whnf)
    refine ⟨v, hv, hi, fun D1 f1 r1 p1 n1 q60 => ?_⟩
    (repeat ((conv => whnf); (first | refine zo0 ?_ | refine zo1 ?_ | refine br_z ?_ | refine br_o ?_ | refine br_zn ?_ | refine br_on ?_ | refine nz2 ?_ | refine nz6 ?_ | refine nz32 ?_ | refine And.intro (by assumption) ?_))); (conv => whnf)
    have u49 : ∀ (k : Nat), k ≠ 49 → ∀ (D : am_D) (j : Nat) (x : Int32), am_up D 49 j x k = D k := fun k hk D j x => am_up_ne hk
    rw [hPe] at p1
    refine outer (P 0 0) 0 _ none (by omega) (fq_tr (fq_fa f1) (fq_up49 (by decide) (fq_up49 (by decide) (fq_up49 (by decide) fq_rf)))) ?_ ?_ ?_ (fun i hi' => ?_) ?_
    · simp [am_up, upd, n1]
    · obtain ⟨x1, x2, x3, x4, x5, x6⟩ := p1
      refine ⟨?_, ?_, ?_, ?_, ?_, ?_⟩
      · simp [am_up, upd, x1]
      · simp [am_up, upd, x2]
      · simp [am_up, upd, x3]
      · simp [am_up, x4]
      · rw [u49 59 (by decide), u49 59 (by decide), u49 59 (by decide), u49 53 (by decide), u49 53 (by decide), u49 53 (by decide)]; exact x5
      · rw [u49 60 (by decide), u49 60 (by decide), u49 60 (by decide)]; exact x6
    · unfold rd at r1 ⊢
      rw [u49 52 (by decide), u49 52 (by decide), u49 52 (by decide), u49 53 (by decide), u49 53 (by decide), u49 53 (by decide), u49 54 (by decide), u49 54 (by decide), u49 54 (by decide)]
      refine ⟨r1.1, ?_, r1.2.2⟩
      simp [am_up, upd, r1.2.1]
    · rw [u49 60 (by decide), u49 60 (by decide), u49 60 (by decide), u49 54 (by decide), u49 54 (by decide), u49 54 (by decide)]; exact q60 i hi'
    · refine ⟨?_, ?_, ?_⟩ <;> simp [am_up, upd, msw, pI]
  · exact absurd h id
theorem clM_swapOf (l : Launch) : ∀ (a : Nat) (ins : Instr) (b dd : Nat), csM_swapOf[a]? = some (ins, b, dd) → am_Call l yM_swapOf.cls 7 ins b dd (fnM_swapOf a) := by
  intro a ins b dd h
  match a, h with
  | 0, h => cases h; exact am_callV (T := F_11) (N := 52) (okM_starts l) wcM_starts (am_m5 (i := 221) rfl rfl) wiM_starts wsM_starts inM rfl (by decide) (by decide +kernel) (by decide) (by decide)
  | 1, h => cases h; exact am_callV (T := F_11) (N := 52) (okM_tries l) wcM_tries (am_m5 (i := 225) rfl rfl) wiM_tries wsM_tries inM rfl (by decide) (by decide +kernel) (by decide) (by decide)
  | k + 2, h => simp [csM_swapOf] at h
theorem okM_swapOf (l : Launch) : am_Ok l yM_swapOf prog_13_method_60_code 4 (some .int) 7 spM_swapOf := am_ok_of (by decide +kernel) flM_ok kiM_ok klM_ok ckM_swapOf (clM_swapOf l) wpM_swapOf
