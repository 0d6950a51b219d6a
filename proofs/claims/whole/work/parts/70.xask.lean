/-! how many crates leave the man at a door -/
def crd (v : vs_T) (t d : Nat) : Nat → Nat
  | 0 => 0
  | k + 1 => crd v t d k + (if seeR v (1 + k) = true ∧ pos v (1 + k) t = d then 1 else 0)
theorem crd_le (v : vs_T) (t d : Nat) : ∀ k, crd v t d k ≤ k
  | 0 => Nat.le_refl 0
  | k + 1 => by
    have := crd_le v t d k
    simp only [crd]
    split <;> omega
theorem cntR_eq {v : vs_T} {t a : Nat} (h : seeR v a = true) : ∀ k, cntR v t a k = crd v t (pos v a t) k
  | 0 => rfl
  | k + 1 => by
    have ih := cntR_eq (t := t) h k
    simp only [cntR, crd, ih]
    by_cases q : seeR v (1 + k) = true ∧ pos v (1 + k) t = pos v a t
    · rw [if_pos q, if_pos ⟨h, q.1, q.2.symm⟩]
    · rw [if_neg q, if_neg (fun e => q ⟨e.2.1, e.2.2.symm⟩)]
theorem cntR_0 {v : vs_T} {t a : Nat} (h : ¬ seeR v a = true) : ∀ k, cntR v t a k = 0
  | 0 => rfl
  | k + 1 => by
    have ih := cntR_0 (t := t) h k
    simp only [cntR, ih]
    rw [if_neg (fun e => h e.1)]
theorem crd_ex {v : vs_T} {t d : Nat} : ∀ k, 0 < crd v t d k → ∃ a, 1 ≤ a ∧ a ≤ k ∧ seeR v a = true ∧ pos v a t = d
  | 0, h => absurd h (by simp [crd])
  | k + 1, h => by
    simp only [crd] at h
    by_cases q : seeR v (1 + k) = true ∧ pos v (1 + k) t = d
    · exact ⟨1 + k, by omega, by omega, q.1, q.2⟩
    · rw [if_neg q] at h
      obtain ⟨a, h1, h2, h3⟩ := crd_ex k h
      exact ⟨a, h1, by omega, h3⟩
theorem mostR_ge {v : vs_T} {t : Nat} : ∀ k a, 1 ≤ a → a ≤ k → cntR v t a 8 ≤ mostR v t k
  | 0, a, h1, h2 => by omega
  | k + 1, a, h1, h2 => by
    simp only [mostR]
    by_cases e : a = 1 + k
    · subst e
      split <;> omega
    · have := mostR_ge (v := v) (t := t) k a h1 (by omega)
      split <;> omega
theorem mostR_up {v : vs_T} {t M : Nat} : ∀ k, (∀ a, 1 ≤ a → a ≤ k → cntR v t a 8 ≤ M) → mostR v t k ≤ M
  | 0, _ => Nat.zero_le _
  | k + 1, h => by
    have h1 := mostR_up (v := v) (t := t) k (fun a q1 q2 => h a q1 (by omega))
    have h2 := h (1 + k) (by omega) (by omega)
    simp only [mostR]
    split <;> omega
def mxd (v : vs_T) (t : Nat) : Nat → Nat
  | 0 => 0
  | d + 1 => max (mxd v t d) (crd v t d 8)
theorem mxd_ge {v : vs_T} {t : Nat} : ∀ k d, d < k → crd v t d 8 ≤ mxd v t k
  | 0, d, h => by omega
  | k + 1, d, h => by
    simp only [mxd]
    by_cases e : d = k
    · subst e; omega
    · have := mxd_ge (v := v) (t := t) k d (by omega)
      omega
theorem mxd_up {v : vs_T} {t M : Nat} : ∀ k, (∀ d, d < k → crd v t d 8 ≤ M) → mxd v t k ≤ M
  | 0, _ => Nat.zero_le _
  | k + 1, h => by
    have h1 := mxd_up (v := v) (t := t) k (fun d q => h d (by omega))
    have h2 := h k (by omega)
    simp only [mxd]
    omega
theorem mxd_le8 (v : vs_T) (t k : Nat) : mxd v t k ≤ 8 := mxd_up k (fun d _ => crd_le v t d 8)
theorem mx_eq {v : vs_T} {t : Nat} (h : ∀ a, 1 ≤ a → a ≤ 8 → pos v a t ≤ 11) : mxd v t 12 = mostR v t 8 := by
  apply Nat.le_antisymm
  · refine mxd_up 12 (fun d hd => ?_)
    by_cases e : crd v t d 8 = 0
    · omega
    · obtain ⟨a, h1, h2, h3, h4⟩ := crd_ex 8 (show 0 < crd v t d 8 by omega)
      have := mostR_ge (v := v) (t := t) 8 a h1 h2
      rw [cntR_eq h3, h4] at this
      exact this
  · refine mostR_up 8 (fun a h1 h2 => ?_)
    by_cases e : seeR v a = true
    · rw [cntR_eq e]
      exact mxd_ge 12 _ (by have := h a h1 h2; omega)
    · rw [cntR_0 e]
      exact Nat.zero_le _
theorem askR_s (v : vs_T) (t : Nat) : askR v (t + 1) ≠ none := by
  simp only [askR]
  split
  · intro h; cases h
  · split <;> (intro h; cases h)
def askS (o : Option (Nat × Nat)) (b l : Int32) : Prop := match o with
  | none => b = 0 ∧ l = 9
  | some (x, y) => b = nI x ∧ l = nI y
theorem mx_nI {a b : Nat} (ha : a < 2 ^ 31) (hb : b < 2 ^ 31) : (if nI a < nI b then nI b else nI a) = nI (max a b) := by
  by_cases h : a < b
  · rw [if_pos (nI_lt h hb), Nat.max_eq_right (by omega)]
  · rw [if_neg (nI_nlt (by omega) ha), Nat.max_eq_left (by omega)]
def fnX_gatherCrowds : Nat → am_Sp := fun a => match a with
  | 0 => spJ_fill
  | 1 => spP_take
  | 2 => spX_comesOutAsSeen
  | 3 => spX_isDoor
  | _ => am_no
theorem mfX_gatherCrowds : ∀ a, am_mono (fnX_gatherCrowds a) := fun a => match a with
  | 0 => moJ_fill
  | 1 => moP_take
  | 2 => moX_comesOutAsSeen
  | 3 => moX_isDoor
  | _ + 4 => am_no_mono
def spX_gatherCrowds : am_Sp := fun as D L K => match as with
  | [.ref 0] => ∃ v : vs_T, vok v ∧ ib D v ∧ iw D ∧ ∀ D', (∀ k, k < 18 ∨ (26 < k ∧ k ≠ 39) → D' k = D k) → iw D' → (∀ t, t < 48 → ∀ d, d < 12 → D' 39 (12 * t + d) = nI (crd v t d 8)) → K none D' L
  | _ => False
theorem moX_gatherCrowds : am_mono spX_gatherCrowds := by
  intro as D L K K' hK h
  unfold spX_gatherCrowds at h ⊢
  split at h
  · obtain ⟨z0, z1, z2, z3, hz⟩ := h
    exact ⟨z0, z1, z2, z3, fun D' q1 q2 q3 => hK _ _ _ (hz D' q1 q2 q3)⟩
  · exact h
theorem wpX_gatherCrowds : ∀ (as : List Value) (D : am_D) (L : am_L) (K : am_K), spX_gatherCrowds as D L K → am_fit 4 as = true ∧ am_Wp false 0 cdX_gatherCrowds fnX_gatherCrowds K 0 (am_lo 4 as) [] D L := by
  intro as D L K h
  unfold spX_gatherCrowds at h
  split at h
  · obtain ⟨v, hv, hib, hw, hK⟩ := h
    have hP := vpl_ok hv
    have hE := vev_ok hv
    have inner : ∀ (k : Nat), k < 8 → seeR v (1 + k) = true → (∀ t, t < 48 → pos v (1 + k) t ≤ 11) → ∀ (D0 : am_D), (∀ t, t < 48 → D0 26 t = nI (pos v (1 + k) t)) → (∀ (D' : am_D) (k2 k3 : Option Value), (∀ q, q ≠ 39 → D' q = D0 q) → (∀ t, t < 48 → ∀ d, d < 12 → D' 39 (12 * t + d) = nI (crd v t d (k + 1))) → am_Wp false 0 cdX_gatherCrowds fnX_gatherCrowds K 21 [some (.ref 0), some (.int (nI (1 + (k + 1)))), k2, k3] [] D' L) →
        ∀ (m t : Nat) (D' : am_D) (k3 : Option Value), t + m = 48 → (∀ q, q ≠ 39 → D' q = D0 q) → (∀ s, s < 48 → ∀ d, d < 12 → D' 39 (12 * s + d) = nI (crd v s d (if s < t then k + 1 else k))) → am_Wp false 0 cdX_gatherCrowds fnX_gatherCrowds K 47 [some (.ref 0), some (.int (nI (1 + k))), some (.int (nI t)), k3] [] D' L := by
      intro k hk hsee hpos D0 htr hout m
      induction m with
      | zero =>
        intro t D' k3 hm hf hc
        refine am_Wp_bl mfX_gatherCrowds [21, 47] 40 _ _ _ _ _ ?_
        (repeat ((conv => whnf); (first | refine zo0 ?_ | refine zo1 ?_ | refine br_z ?_ | refine br_o ?_ | refine br_zn ?_ | refine br_on ?_ | refine nz2 ?_ | refine nz6 ?_ | refine nz32 ?_ | refine And.intro (by assumption) ?_))); (conv => whnf)
        refine ⟨fun h1 => ?_, fun h1 => absurd (nI_le (a := 48) (by omega) (by omega)) h1⟩
        (repeat ((conv => whnf); (first | refine zo0 ?_ | refine zo1 ?_ | refine br_z ?_ | refine br_o ?_ | refine br_zn ?_ | refine br_on ?_ | refine nz2 ?_ | refine nz6 ?_ | refine nz32 ?_ | refine And.intro (by assumption) ?_))); (conv => whnf)
        rw [nI_1, Nat.add_assoc]
        refine hout D' _ _ hf (fun s hs d hd => ?_)
        rw [hc s hs d hd, if_pos (by omega)]
      | succ m ih =>
        intro t D' k3 hm hf hc
        have ec : (nI t).toNatClampNeg = t := nI_clamp (by omega)
        have hin : vp_in (nI t) 48 := vp_in_nI (by omega) (by decide)
        obtain ⟨p, hp⟩ : ∃ p, pos v (1 + k) t = p := ⟨_, rfl⟩
        have hp11 : p ≤ 11 := by rw [← hp]; exact hpos t (by omega)
        have e26 : D' 26 t = nI p := by rw [hf 26 (by decide), htr t (by omega), hp]
        have e12 : nI t * 12 + nI p = nI (12 * t + p) := by rw [show (12 : Int32) = nI 12 by decide +kernel, pk_mul, nI_add, Nat.mul_comm]
        have i576 : vp_in (nI t * 12 + nI p) 576 := by rw [e12]; exact vp_in_nI (by omega) (by decide)
        have c576 : (nI t * 12 + nI p).toNatClampNeg = 12 * t + p := by rw [e12]; exact nI_clamp (by omega)
        refine am_Wp_bl mfX_gatherCrowds [21, 47] 80 _ _ _ _ _ ?_
        (repeat ((conv => whnf); (first | refine zo0 ?_ | refine zo1 ?_ | refine br_z ?_ | refine br_o ?_ | refine br_zn ?_ | refine br_on ?_ | refine nz2 ?_ | refine nz6 ?_ | refine nz32 ?_ | refine And.intro (by assumption) ?_))); (conv => whnf)
        refine ⟨fun h1 => absurd h1 (nI_ge (b := 48) (by omega) (by omega)), fun h1 => ?_⟩
        (repeat ((conv => whnf); (first | refine zo0 ?_ | refine zo1 ?_ | refine br_z ?_ | refine br_o ?_ | refine br_zn ?_ | refine br_on ?_ | refine nz2 ?_ | refine nz6 ?_ | refine nz32 ?_ | refine And.intro (by assumption) ?_))); (conv => whnf)
        rw [ec, e26]
        refine ⟨fun _ => ?_, fun q => absurd (isd_nI (by omega)) q⟩
        (repeat ((conv => whnf); (first | refine zo0 ?_ | refine zo1 ?_ | refine br_z ?_ | refine br_o ?_ | refine br_zn ?_ | refine br_on ?_ | refine nz2 ?_ | refine nz6 ?_ | refine nz32 ?_ | refine And.intro (by assumption) ?_))); (conv => whnf)
        rw [c576, hc t (by omega) p (by omega), if_neg (by omega), nI_1, nI_1]
        refine ih (t + 1) _ _ (by omega) (fun q hq => (am_up_ne hq).trans (hf q hq)) (fun s hs d hd => ?_)
        rw [ap, if_pos rfl]
        by_cases e1 : s = t
        · subst e1
          by_cases e2 : d = p
          · subst e2
            rw [if_pos rfl, if_pos (by omega), crd, if_pos ⟨hsee, hp⟩]
          · rw [if_neg (by omega), hc s hs d hd, if_neg (by omega), if_pos (by omega), crd, if_neg (fun q => e2 (q.2.symm.trans hp)), Nat.add_zero]
        · rw [if_neg (by omega), hc s hs d hd]
          by_cases e3 : s < t
          · rw [if_pos e3, if_pos (by omega)]
          · rw [if_neg e3, if_neg (by omega)]
    have outer : ∀ (m k : Nat) (D' : am_D) (k2 k3 : Option Value), k + m = 8 → (∀ k, k < 18 ∨ (26 < k ∧ k ≠ 39) → D' k = D k) → (∃ Q, mw_pok Q ∧ px D' 18 Q ∧ ∀ h, pR Q h = pR (vpl v) h) → D' 18 7 = 0 → iw D' → (∀ t, t < 48 → ∀ d, d < 12 → D' 39 (12 * t + d) = nI (crd v t d k)) → am_Wp false 0 cdX_gatherCrowds fnX_gatherCrowds K 21 [some (.ref 0), some (.int (nI (1 + k))), k2, k3] [] D' L := by
      intro m
      induction m with
      | zero =>
        intro k D' k2 k3 hm hf hq h7 hw' hc
        refine am_Wp_bl mfX_gatherCrowds [21] 40 _ _ _ _ _ ?_
        (repeat ((conv => whnf); (first | refine zo0 ?_ | refine zo1 ?_ | refine br_z ?_ | refine br_o ?_ | refine br_zn ?_ | refine br_on ?_ | refine nz2 ?_ | refine nz6 ?_ | refine nz32 ?_ | refine And.intro (by assumption) ?_))); (conv => whnf)
        refine ⟨fun h1 => ?_, fun h1 => absurd (nI_lt (a := 8) (b := 1 + k) (by omega) (by omega)) h1⟩
        (repeat ((conv => whnf); (first | refine zo0 ?_ | refine zo1 ?_ | refine br_z ?_ | refine br_o ?_ | refine br_zn ?_ | refine br_on ?_ | refine nz2 ?_ | refine nz6 ?_ | refine nz32 ?_ | refine And.intro (by assumption) ?_))); (conv => whnf)
        rw [show k = 8 by omega] at hc
        exact hK D' hf hw' hc
      | succ m ih =>
        intro k D' k2 k3 hm hf hq h7 hw' hc
        obtain ⟨Q, hQk, hpx, hQ⟩ := hq
        have he' : ie D' v := ie_fr hib.2.2.1 (fun k _ _ => hf k (by omega))
        have hg' : isg D' v := isg_fr hib.2.2.2.1 (fun k _ _ => hf k (by omega))
        have hR := pR_ok (r := 1 + k) hQk (by omega) (by omega)
        have px1 := pxR (1 + k) hpx
        refine am_Wp_bl mfX_gatherCrowds [21, 47] 80 _ _ _ _ _ ?_
        (repeat ((conv => whnf); (first | refine zo0 ?_ | refine zo1 ?_ | refine br_z ?_ | refine br_o ?_ | refine br_zn ?_ | refine br_on ?_ | refine nz2 ?_ | refine nz6 ?_ | refine nz32 ?_ | refine And.intro (by assumption) ?_))); (conv => whnf)
        refine ⟨fun h1 => absurd h1 (nI_nlt (a := 8) (b := 1 + k) (by omega) (by omega)), fun h1 => ?_⟩
        (repeat ((conv => whnf); (first | refine zo0 ?_ | refine zo1 ?_ | refine br_z ?_ | refine br_o ?_ | refine br_zn ?_ | refine br_on ?_ | refine nz2 ?_ | refine nz6 ?_ | refine nz32 ?_ | refine And.intro (by assumption) ?_))); (conv => whnf)
        refine ⟨v, pR Q (1 + k), allp, hv, hR, ie_fr he' (fun k _ _ => am_up_ne (by omega)), isg_fr hg' (fun k _ _ => am_up_ne (by omega)), px1, by rw [ap, if_pos rfl, if_neg (by decide), h7]; exact prx_0, iw_fr hw' (fun k _ _ => am_up_ne (by omega)), fun D2 r f2 w2 t2 hr => ?_⟩
        have px2 := px_fr4 px1 f2 (by decide)
        have g2 : ∀ k, k < 18 ∨ (26 < k ∧ k ≠ 39) → D2 k = D k := fun k hk => (f2 k (by omega)).trans ((am_up_ne (by omega)).trans (hf k hk))
        have q2 : ∃ Q, mw_pok Q ∧ px D2 18 Q ∧ ∀ h, pR Q h = pR (vpl v) h := ⟨pR Q (1 + k), hR, px2, fun h => by rw [pR_R]; exact hQ h⟩
        have z2 : D2 18 7 = 0 := by rw [f2 18 (by omega), ap, if_pos rfl, if_neg (by decide)]; exact h7
        have d39 : D2 39 = D' 39 := (f2 39 (by omega)).trans (am_up_ne (by decide))
        rw [hQ] at hr t2
        rcases hr with ⟨e1, rfl⟩ | ⟨e1, rfl⟩
        · (repeat ((conv => whnf); (first | refine zo0 ?_ | refine zo1 ?_ | refine br_z ?_ | refine br_o ?_ | refine br_zn ?_ | refine br_on ?_ | refine nz2 ?_ | refine nz6 ?_ | refine nz32 ?_ | refine And.intro (by assumption) ?_))); (conv => whnf)
          refine inner k (by omega) e1 (fun t ht => (mw_run_ok (pR_ok (r := 1 + k) hP (by omega) (by omega)) hE (t + 1)).1) D2 (fun t ht => t2 t ht) (fun D3 k4 k5 f3 c3 => ?_) 48 0 D2 _ (by omega) (fun _ _ => rfl) (fun s hs d hd => ?_)
          · obtain ⟨Q2, a1, a2, a3⟩ := q2
            exact ih (k + 1) D3 k4 k5 (by omega) (fun q hq => (f3 q (by omega)).trans (g2 q hq)) ⟨Q2, a1, px_fr a2 (f3 _ (by decide)) (f3 _ (by decide)) (f3 _ (by decide)) (f3 _ (by decide)), a3⟩ (by rw [f3 18 (by decide)]; exact z2) (iw_fr w2 (fun k _ _ => f3 k (by omega))) c3
          · rw [d39, hc s hs d hd, if_neg (by omega)]
        · (repeat ((conv => whnf); (first | refine zo0 ?_ | refine zo1 ?_ | refine br_z ?_ | refine br_o ?_ | refine br_zn ?_ | refine br_on ?_ | refine nz2 ?_ | refine nz6 ?_ | refine nz32 ?_ | refine And.intro (by assumption) ?_))); (conv => whnf)
          rw [nI_1, Nat.add_assoc]
          refine ih (k + 1) D2 _ _ (by omega) g2 q2 z2 w2 (fun t ht d hd => ?_)
          rw [d39, hc t ht d hd, crd, if_neg (fun q => Bool.eq_false_iff.mp e1 q.1), Nat.add_zero]
    refine ⟨rfl, am_Wp_bl mfX_gatherCrowds [21] 60 _ _ _ _ _ ?_⟩
    (repeat ((conv => whnf); (first | refine zo0 ?_ | refine zo1 ?_ | refine br_z ?_ | refine br_o ?_ | refine br_zn ?_ | refine br_on ?_ | refine nz2 ?_ | refine nz6 ?_ | refine nz32 ?_ | refine And.intro (by assumption) ?_))); (conv => whnf)
    refine ⟨rfl, by decide +kernel, ?_⟩
    (repeat ((conv => whnf); (first | refine zo0 ?_ | refine zo1 ?_ | refine br_z ?_ | refine br_o ?_ | refine br_zn ?_ | refine br_on ?_ | refine nz2 ?_ | refine nz6 ?_ | refine nz32 ?_ | refine And.intro (by assumption) ?_))); (conv => whnf)
    obtain ⟨D0, hD0⟩ : ∃ D0, am_upA D 39 (fun j => if j < am_len 39 then 0 else D 39 j) = D0 := ⟨_, rfl⟩
    rw [hD0]
    have g0 : ∀ k, k ≠ 39 → D0 k = D k := fun k hk => by rw [← hD0]; simp [am_upA, hk]
    have s0 : ∀ j, j < 576 → D0 39 j = 0 := fun j hj => by rw [← hD0]; simp [am_upA, ln_39, hj]
    refine ⟨vpl v, px_fr hib.2.1.1 (g0 _ (by decide)) (g0 _ (by decide)) (g0 _ (by decide)) (g0 _ (by decide)), fun D1 f1 p1 a1 => ?_⟩
    (repeat ((conv => whnf); (first | refine zo0 ?_ | refine zo1 ?_ | refine br_z ?_ | refine br_o ?_ | refine br_zn ?_ | refine br_on ?_ | refine nz2 ?_ | refine nz6 ?_ | refine nz32 ?_ | refine And.intro (by assumption) ?_))); (conv => whnf)
    refine outer 8 0 D1 none none (by omega) (fun k hk => (f1 k (by omega)).trans (g0 k (by omega))) ⟨vpl v, hP, p1, fun _ => rfl⟩ ?_ (iw_fr hw (fun k _ _ => (f1 k (by omega)).trans (g0 k (by omega)))) (fun t ht d hd => ?_)
    · rw [a1, g0 14 (by decide)]; exact hib.2.1.2
    · rw [f1 39 (by omega), s0 _ (by omega), crd, nI_0]
  · exact absurd h id
theorem clX_gatherCrowds (l : Launch) : ∀ (a : Nat) (ins : Instr) (b dd : Nat), csX_gatherCrowds[a]? = some (ins, b, dd) → am_Call l yX_gatherCrowds.cls 5 ins b dd (fnX_gatherCrowds a) := by
  intro a ins b dd h
  match a, h with
  | 0, h => cases h; exact am_callS (okJ_fill l) wcJ_fill (am_m3 (i := 220) rfl rfl) wtJ_fill inJA (by decide +kernel) (by decide) (by decide)
  | 1, h => cases h; exact am_callV (T := F_4) (N := 8) (okP_take l) wcP_take (am_m3 (i := 122) rfl rfl) wiP_take wsP_take inP rfl (by decide) (by decide +kernel) (by decide) (by decide)
  | 2, h => cases h; exact am_callV (T := F_10) (N := 17) (okX_comesOutAsSeen l) wcX_comesOutAsSeen (am_m3 (i := 196) rfl rfl) wiX_comesOutAsSeen wsX_comesOutAsSeen inX rfl (by decide) (by decide +kernel) (by decide) (by decide)
  | 3, h => cases h; exact am_callS (okX_isDoor l) wcX_isDoor (am_m2 (i := 199) rfl rfl) wtX_isDoor inX (by decide +kernel) (by decide) (by decide)
  | k + 4, h => simp [csX_gatherCrowds] at h
theorem okX_gatherCrowds (l : Launch) : am_Ok l yX_gatherCrowds prog_1_method_55_code 4 none 5 spX_gatherCrowds := am_ok_of (by decide +kernel) flX_ok kiX_ok klX_ok ckX_gatherCrowds (clX_gatherCrowds l) wpX_gatherCrowds
def fnX_ask : Nat → am_Sp := fun a => match a with
  | 0 => spX_gatherCrowds
  | 1 => spJ_max
  | _ => am_no
theorem mfX_ask : ∀ a, am_mono (fnX_ask a) := fun a => match a with
  | 0 => moX_gatherCrowds
  | 1 => moJ_max
  | _ + 2 => am_no_mono
def spX_ask : am_Sp := fun as D L K => match as with
  | [.ref 0] => ∃ v : vs_T, vok v ∧ ix D v ∧ ∀ (D' : am_D) (L' : am_L), fc D D' → ix D' v → K (some (.int (aAsk v))) D' L'
  | _ => False
theorem moX_ask : am_mono spX_ask := by
  intro as D L K K' hK h
  unfold spX_ask at h ⊢
  split at h
  · obtain ⟨z0, z1, z2, hz⟩ := h
    exact ⟨z0, z1, z2, fun D' L' q1 q2 => hK _ _ _ (hz D' L' q1 q2)⟩
  · exact h
theorem wpX_ask : ∀ (as : List Value) (D : am_D) (L : am_L) (K : am_K), spX_ask as D L K → am_fit 6 as = true ∧ am_Wp false 0 cdX_ask fnX_ask K 0 (am_lo 6 as) [] D L := by
  intro as D L K h
  unfold spX_ask at h
  split at h
  · obtain ⟨v, hv, hi, hK⟩ := h
    have hP := vpl_ok hv
    have hE := vev_ok hv
    refine ⟨rfl, am_Wp_bl mfX_ask [11] 60 _ _ _ _ _ ?_⟩
    (repeat ((conv => whnf); (first | refine zo0 ?_ | refine zo1 ?_ | refine br_z ?_ | refine br_o ?_ | refine br_zn ?_ | refine br_on ?_ | refine nz2 ?_ | refine nz6 ?_ | refine nz32 ?_ | refine And.intro (by assumption) ?_))); (conv => whnf)
    refine ⟨v, hv, hi.1, hi.2.2, fun D1 f1 w1 c1 => ?_⟩
    have hk := hK D1 L (fun k hk => f1 k (by omega)) (ix_try hi (fun k hk => f1 k (by omega)) w1)
    have mx : ∀ t, t < 48 → mxd v t 12 = mostR v t 8 := fun t ht => mx_eq (fun a h1 h2 => (mw_run_ok (pR_ok (r := a) hP h1 h2) hE (t + 1)).1)
    have inner : ∀ (t : Nat) (b l : Int32), t < 48 → (∀ k5 : Option Value, am_Wp false 0 cdX_ask fnX_ask K 55 [some (.ref 0), some (.int b), some (.int l), some (.int (nI t)), some (.int (nI (mxd v t 12))), k5] [] D1 L) →
        ∀ (m d : Nat), d + m = 12 → am_Wp false 0 cdX_ask fnX_ask K 23 [some (.ref 0), some (.int b), some (.int l), some (.int (nI t)), some (.int (nI (mxd v t d))), some (.int (nI d))] [] D1 L := by
      intro t b l ht hout m
      induction m with
      | zero =>
        intro d hm
        refine am_Wp_bl mfX_ask [23, 55] 40 _ _ _ _ _ ?_
        (repeat ((conv => whnf); (first | refine zo0 ?_ | refine zo1 ?_ | refine br_z ?_ | refine br_o ?_ | refine br_zn ?_ | refine br_on ?_ | refine nz2 ?_ | refine nz6 ?_ | refine nz32 ?_ | refine And.intro (by assumption) ?_))); (conv => whnf)
        refine ⟨fun h1 => ?_, fun h1 => absurd (nI_le (a := 12) (by omega) (by omega)) h1⟩
        (repeat ((conv => whnf); (first | refine zo0 ?_ | refine zo1 ?_ | refine br_z ?_ | refine br_o ?_ | refine br_zn ?_ | refine br_on ?_ | refine nz2 ?_ | refine nz6 ?_ | refine nz32 ?_ | refine And.intro (by assumption) ?_))); (conv => whnf)
        rw [show d = 12 by omega]
        exact hout _
      | succ m ih =>
        intro d hm
        have e12 : nI t * 12 + nI d = nI (12 * t + d) := by rw [show (12 : Int32) = nI 12 by decide +kernel, pk_mul, nI_add, Nat.mul_comm]
        have i576 : vp_in (nI t * 12 + nI d) 576 := by rw [e12]; exact vp_in_nI (by omega) (by decide)
        have c576 : (nI t * 12 + nI d).toNatClampNeg = 12 * t + d := by rw [e12]; exact nI_clamp (by omega)
        have l8 := mxd_le8 v t d
        have l9 := crd_le v t d 8
        refine am_Wp_bl mfX_ask [23, 55] 60 _ _ _ _ _ ?_
        (repeat ((conv => whnf); (first | refine zo0 ?_ | refine zo1 ?_ | refine br_z ?_ | refine br_o ?_ | refine br_zn ?_ | refine br_on ?_ | refine nz2 ?_ | refine nz6 ?_ | refine nz32 ?_ | refine And.intro (by assumption) ?_))); (conv => whnf)
        refine ⟨fun h1 => absurd h1 (nI_ge (b := 12) (by omega) (by omega)), fun h1 => ?_⟩
        (repeat ((conv => whnf); (first | refine zo0 ?_ | refine zo1 ?_ | refine br_z ?_ | refine br_o ?_ | refine br_zn ?_ | refine br_on ?_ | refine nz2 ?_ | refine nz6 ?_ | refine nz32 ?_ | refine And.intro (by assumption) ?_))); (conv => whnf)
        rw [c576, c1 t ht d (by omega), mx_nI (by omega) (by omega)]
        (repeat ((conv => whnf); (first | refine zo0 ?_ | refine zo1 ?_ | refine br_z ?_ | refine br_o ?_ | refine br_zn ?_ | refine br_on ?_ | refine nz2 ?_ | refine nz6 ?_ | refine nz32 ?_ | refine And.intro (by assumption) ?_))); (conv => whnf)
        rw [nI_1]
        exact ih (d + 1) (by omega)
    have outer : ∀ (m t : Nat) (b l : Int32) (k4 k5 : Option Value), t + m = 48 → askS (askR v t) b l → am_Wp false 0 cdX_ask fnX_ask K 11 [some (.ref 0), some (.int b), some (.int l), some (.int (nI t)), k4, k5] [] D1 L := by
      intro m
      induction m with
      | zero =>
        intro t b l k4 k5 hm hs
        refine am_Wp_bl mfX_ask [11] 40 _ _ _ _ _ ?_
        (repeat ((conv => whnf); (first | refine zo0 ?_ | refine zo1 ?_ | refine br_z ?_ | refine br_o ?_ | refine br_zn ?_ | refine br_on ?_ | refine nz2 ?_ | refine nz6 ?_ | refine nz32 ?_ | refine And.intro (by assumption) ?_))); (conv => whnf)
        refine ⟨fun h1 => ?_, fun h1 => absurd (nI_le (a := 48) (by omega) (by omega)) h1⟩
        (repeat ((conv => whnf); (first | refine zo0 ?_ | refine zo1 ?_ | refine br_z ?_ | refine br_o ?_ | refine br_zn ?_ | refine br_on ?_ | refine nz2 ?_ | refine nz6 ?_ | refine nz32 ?_ | refine And.intro (by assumption) ?_))); (conv => whnf)
        rw [show t = 48 by omega] at hs
        cases h : askR v 48 with
        | none => exact absurd h (askR_s v 47)
        | some q =>
          rw [h] at hs
          have e : aAsk v = nI q.1 := by unfold aAsk askI; rw [h]
          rw [e] at hk
          rw [hs.1]
          exact hk
      | succ m ih =>
        intro t b l k4 k5 hm hs
        have ok := askR_ok v t (by omega)
        have l8 := mostR_le v t 8
        refine am_Wp_bl mfX_ask [11, 23] 40 _ _ _ _ _ ?_
        (repeat ((conv => whnf); (first | refine zo0 ?_ | refine zo1 ?_ | refine br_z ?_ | refine br_o ?_ | refine br_zn ?_ | refine br_on ?_ | refine nz2 ?_ | refine nz6 ?_ | refine nz32 ?_ | refine And.intro (by assumption) ?_))); (conv => whnf)
        refine ⟨fun h1 => absurd h1 (nI_ge (b := 48) (by omega) (by omega)), fun h1 => ?_⟩
        (repeat ((conv => whnf); (first | refine zo0 ?_ | refine zo1 ?_ | refine br_z ?_ | refine br_o ?_ | refine br_zn ?_ | refine br_on ?_ | refine nz2 ?_ | refine nz6 ?_ | refine nz32 ?_ | refine And.intro (by assumption) ?_))); (conv => whnf)
        refine inner t b l (by omega) (fun k6 => ?_) 12 0 (by omega)
        rw [mx t (by omega)]
        have en : askR v (t + 1) = match askR v t with
          | none => some (t, mostR v t 8)
          | some (b, l) => if mostR v t 8 < l then some (t, mostR v t 8) else some (b, l) := rfl
        refine am_Wp_bl mfX_ask [11] 40 _ _ _ _ _ ?_
        (repeat ((conv => whnf); (first | refine zo0 ?_ | refine zo1 ?_ | refine br_z ?_ | refine br_o ?_ | refine br_zn ?_ | refine br_on ?_ | refine nz2 ?_ | refine nz6 ?_ | refine nz32 ?_ | refine And.intro (by assumption) ?_))); (conv => whnf)
        cases h : askR v t with
        | none =>
          rw [h] at hs en
          rw [hs.2]
          refine ⟨fun h2 => absurd h2 (nI_ge (b := 9) (by omega) (by omega)), fun h2 => ?_⟩
          (repeat ((conv => whnf); (first | refine zo0 ?_ | refine zo1 ?_ | refine br_z ?_ | refine br_o ?_ | refine br_zn ?_ | refine br_on ?_ | refine nz2 ?_ | refine nz6 ?_ | refine nz32 ?_ | refine And.intro (by assumption) ?_))); (conv => whnf)
          rw [nI_1]
          exact ih (t + 1) _ _ _ _ (by omega) (by rw [en]; exact ⟨rfl, rfl⟩)
        | some q =>
          obtain ⟨x, y⟩ := q
          rw [h] at hs en ok
          have oy : y ≤ 8 := ok.2
          rw [hs.2, nI_leI (by omega) (by omega)]
          refine ⟨fun h2 => ?_, fun h2 => ?_⟩
          · (repeat ((conv => whnf); (first | refine zo0 ?_ | refine zo1 ?_ | refine br_z ?_ | refine br_o ?_ | refine br_zn ?_ | refine br_on ?_ | refine nz2 ?_ | refine nz6 ?_ | refine nz32 ?_ | refine And.intro (by assumption) ?_))); (conv => whnf)
            rw [nI_1]
            refine ih (t + 1) _ _ _ _ (by omega) ?_
            rw [en]
            simp only []
            rw [if_neg (by omega)]
            exact ⟨hs.1, rfl⟩
          · (repeat ((conv => whnf); (first | refine zo0 ?_ | refine zo1 ?_ | refine br_z ?_ | refine br_o ?_ | refine br_zn ?_ | refine br_on ?_ | refine nz2 ?_ | refine nz6 ?_ | refine nz32 ?_ | refine And.intro (by assumption) ?_))); (conv => whnf)
            rw [nI_1]
            refine ih (t + 1) _ _ _ _ (by omega) ?_
            rw [en]
            simp only []
            rw [if_pos (by omega)]
            exact ⟨rfl, rfl⟩
    (repeat ((conv => whnf); (first | refine zo0 ?_ | refine zo1 ?_ | refine br_z ?_ | refine br_o ?_ | refine br_zn ?_ | refine br_on ?_ | refine nz2 ?_ | refine nz6 ?_ | refine nz32 ?_ | refine And.intro (by assumption) ?_))); (conv => whnf)
    exact outer 48 0 0 9 none none (by omega) ⟨rfl, rfl⟩
  · exact absurd h id
theorem clX_ask (l : Launch) : ∀ (a : Nat) (ins : Instr) (b dd : Nat), csX_ask[a]? = some (ins, b, dd) → am_Call l yX_ask.cls 6 ins b dd (fnX_ask a) := by
  intro a ins b dd h
  match a, h with
  | 0, h => cases h; exact am_callV (T := F_10) (N := 17) (okX_gatherCrowds l) wcX_gatherCrowds (am_m3 (i := 216) rfl rfl) wiX_gatherCrowds wsX_gatherCrowds inX rfl (by decide) (by decide +kernel) (by decide) (by decide)
  | 1, h => cases h; exact am_callMax (am_m3 (i := 221) rfl rfl) (wcJ_max) (wtJ_max) inJM (by decide)
  | k + 2, h => simp [csX_ask] at h
theorem okX_ask (l : Launch) : am_Ok l yX_ask prog_1_method_27_code 6 (some .int) 6 spX_ask := am_ok_of (by decide +kernel) flX_ok kiX_ok klX_ok ckX_ask (clX_ask l) wpX_ask
def fnX_mornings : Nat → am_Sp := fun a => match a with
  | 0 => spP_take
  | 1 => spW_run
  | 2 => spW_howManyLack
  | _ => am_no
theorem mfX_mornings : ∀ a, am_mono (fnX_mornings a) := fun a => match a with
  | 0 => moP_take
  | 1 => moW_run
  | 2 => moW_howManyLack
  | _ + 3 => am_no_mono
def spX_mornings : am_Sp := fun as D L K => match as with
  | [.ref 0, .int s, .int x, .int y] => ∃ v : vs_T, vok v ∧ ix D v ∧ ∀ (D' : am_D) (L' : am_L), fc D D' → ix D' v → K (some (.int (qMorn v s x y))) D' L'
  | _ => False
theorem moX_mornings : am_mono spX_mornings := by
  intro as D L K K' hK h
  unfold spX_mornings at h ⊢
  split at h
  · obtain ⟨z0, z1, z2, hz⟩ := h
    exact ⟨z0, z1, z2, fun D' L' q1 q2 => hK _ _ _ (hz D' L' q1 q2)⟩
  · exact h
theorem wpX_mornings : ∀ (as : List Value) (D : am_D) (L : am_L) (K : am_K), spX_mornings as D L K → am_fit 6 as = true ∧ am_Wp false 0 cdX_mornings fnX_mornings K 0 (am_lo 6 as) [] D L := by
  intro as D L K h
  unfold spX_mornings at h
  split at h
  · rename_i s x y
    obtain ⟨v, hv, hi, hK⟩ := h
    have kb : ¬ ((0 ≤ x ∧ x ≤ 12) ∧ (0 ≤ y ∧ y ≤ 1)) → K (some (.int (-2))) D L := fun q => by
      have k := hK D L fc_rf
      unfold qMorn at k
      by_cases c0 : (0 ≤ x ∧ x ≤ 12)
      · by_cases c1 : (0 ≤ y ∧ y ≤ 1)
        · exact absurd ⟨c0, c1⟩ q
        · rw [if_pos c0, if_neg c1] at k
          exact k hi
      · rw [if_neg c0] at k
        exact k hi
    have hE := vev_ok hv
    have hib := hi.1
    refine ⟨rfl, am_Wp_bl mfX_mornings [39] 80 _ _ _ _ _ ?_⟩
    (repeat ((conv => whnf); (first | refine zo0 ?_ | refine zo1 ?_ | refine br_z ?_ | refine br_o ?_ | refine br_zn ?_ | refine br_on ?_ | refine nz2 ?_ | refine nz6 ?_ | refine nz32 ?_ | refine And.intro (by assumption) ?_))); (conv => whnf)
    refine ⟨fun h1 => ?_, fun h1 => ?_⟩
    · (repeat ((conv => whnf); (first | refine zo0 ?_ | refine zo1 ?_ | refine br_z ?_ | refine br_o ?_ | refine br_zn ?_ | refine br_on ?_ | refine nz2 ?_ | refine nz6 ?_ | refine nz32 ?_ | refine And.intro (by assumption) ?_))); (conv => whnf)
      exact kb (fun q => rn0 h1 q.1)
    (repeat ((conv => whnf); (first | refine zo0 ?_ | refine zo1 ?_ | refine br_z ?_ | refine br_o ?_ | refine br_zn ?_ | refine br_on ?_ | refine nz2 ?_ | refine nz6 ?_ | refine nz32 ?_ | refine And.intro (by assumption) ?_))); (conv => whnf)
    refine ⟨fun h2 => ?_, fun h2 => ?_⟩
    · (repeat ((conv => whnf); (first | refine zo0 ?_ | refine zo1 ?_ | refine br_z ?_ | refine br_o ?_ | refine br_zn ?_ | refine br_on ?_ | refine nz2 ?_ | refine nz6 ?_ | refine nz32 ?_ | refine And.intro (by assumption) ?_))); (conv => whnf)
      exact kb (fun q => rn1 h2 q.1)
    have hx : 0 ≤ x ∧ x ≤ 12 := rq1 h1 h2
    (repeat ((conv => whnf); (first | refine zo0 ?_ | refine zo1 ?_ | refine br_z ?_ | refine br_o ?_ | refine br_zn ?_ | refine br_on ?_ | refine nz2 ?_ | refine nz6 ?_ | refine nz32 ?_ | refine And.intro (by assumption) ?_))); (conv => whnf)
    refine ⟨fun h3 => ?_, fun h3 => ?_⟩
    · (repeat ((conv => whnf); (first | refine zo0 ?_ | refine zo1 ?_ | refine br_z ?_ | refine br_o ?_ | refine br_zn ?_ | refine br_on ?_ | refine nz2 ?_ | refine nz6 ?_ | refine nz32 ?_ | refine And.intro (by assumption) ?_))); (conv => whnf)
      exact kb (fun q => rn0 h3 q.2)
    (repeat ((conv => whnf); (first | refine zo0 ?_ | refine zo1 ?_ | refine br_z ?_ | refine br_o ?_ | refine br_zn ?_ | refine br_on ?_ | refine nz2 ?_ | refine nz6 ?_ | refine nz32 ?_ | refine And.intro (by assumption) ?_))); (conv => whnf)
    refine ⟨fun h4 => ?_, fun h4 => ?_⟩
    rotate_left
    · (repeat ((conv => whnf); (first | refine zo0 ?_ | refine zo1 ?_ | refine br_z ?_ | refine br_o ?_ | refine br_zn ?_ | refine br_on ?_ | refine nz2 ?_ | refine nz6 ?_ | refine nz32 ?_ | refine And.intro (by assumption) ?_))); (conv => whnf)
      exact kb (fun q => rn2 h4 q.2)
    have hy : 0 ≤ y ∧ y ≤ 1 := ⟨Int32.not_lt.mp h3, h4⟩
    obtain ⟨k, hk, ek⟩ := rg_nI (n := 12) (by decide) hx
    obtain ⟨c, hc, ec⟩ := rg_nI (n := 1) (by decide) hy
    subst ek ec
    have c0 : nI c = 0 ↔ c = 0 := by rw [← nI_0, nI_eq (by omega) (by omega)]
    have hP := pM_ok (s := s) (k := k) (vpl_ok hv)
    have kg : ∀ D', (∀ k, k < 18 ∨ 26 < k → D' k = D k) → iw D' → K (some (.int (aMorn v s k c))) D' L := fun D' hf hw => by
      have kk := hK D' L (fun k hk => hf k (by omega)) (ix_try hi (fun k hk => hf k (by omega)) hw)
      unfold qMorn at kk
      rw [if_pos hx, if_pos hy, cN_nI (by omega), cN_nI (by omega)] at kk
      exact kk
    have loop : ∀ (m i : Nat) (D1 D' : am_D), i + m = 12 → (∀ k, k < 18 ∨ 26 < k → D1 k = D k) → D1 18 7 = 0 → iw D1 → px D1 18 (vpl v) → (∀ q, q ≠ 19 → D' q = D1 q) → (∀ d, d < i → D' 19 d = nI (pM (vpl v) s k 1 d)) → am_Wp false 0 cdX_mornings fnX_mornings K 39 [some (.ref 0), some (.int s), some (.int (nI k)), some (.int (nI c)), some (.int (lot s i)), some (.int (nI i))] [] D' L := by
      intro m
      induction m with
      | zero =>
        intro i D1 D' hm hf h7 hw hp g1 g2
        have p1 : px D' 18 (pM (vpl v) s k) := by
          obtain ⟨x1, x2, x3, x4, x5, x6⟩ := hp
          refine ⟨?_, ?_, ?_, ?_, fun d hd => ⟨g2 d (by omega), ?_⟩, fun i hi => ?_⟩
          · rw [pM_o (by decide), g1 18 (by decide)]; exact x1
          · rw [pM_o (by decide), g1 18 (by decide)]; exact x2
          · rw [pM_o (by decide), g1 18 (by decide)]; exact x3
          · rw [pM_o (by decide), g1 18 (by decide)]; exact x4
          · rw [pM_o (by decide), g1 20 (by decide)]; exact (x5 d hd).2
          · rw [pM_o (by decide), g1 21 (by decide)]; exact x6 i hi
        have g3 : ∀ q, q < 18 ∨ 26 < q → D' q = D q := fun q hq => (g1 q (by omega)).trans (hf q hq)
        refine am_Wp_bl mfX_mornings [39] 60 _ _ _ _ _ ?_
        (repeat ((conv => whnf); (first | refine zo0 ?_ | refine zo1 ?_ | refine br_z ?_ | refine br_o ?_ | refine br_zn ?_ | refine br_on ?_ | refine nz2 ?_ | refine nz6 ?_ | refine nz32 ?_ | refine And.intro (by assumption) ?_))); (conv => whnf)
        refine ⟨fun h1 => ?_, fun h1 => absurd (nI_le (a := 12) (by omega) (by omega)) h1⟩
        (repeat ((conv => whnf); (first | refine zo0 ?_ | refine zo1 ?_ | refine br_z ?_ | refine br_o ?_ | refine br_zn ?_ | refine br_on ?_ | refine nz2 ?_ | refine nz6 ?_ | refine nz32 ?_ | refine And.intro (by assumption) ?_))); (conv => whnf)
        refine ⟨pM (vpl v) s k, vev v, allp, Or.inr rfl, hP, hE, p1, ex_fr (ex_ie hib.2.2.1 hv) (g3 _ (by omega)) (g3 _ (by omega)) (g3 _ (by omega)) (g3 _ (by omega)), by rw [g1 18 (by decide), h7]; exact prx_0, iw_fr hw (fun q _ _ => g1 q (by omega)), fun D2 g f2 w2 t2 => ?_⟩
        have kk := kg D2 (fun q hq => (f2 q (by omega)).trans (g3 q hq)) ⟨_, g, w2⟩
        have px2 := px_fr4 p1 f2 (by decide)
        have e13 : D2 22 13 = nI (mW (pM (vpl v) s k) (vev v) allp) := w2.2.2.2.2.2.2.2.2.2.1
        (repeat ((conv => whnf); (first | refine zo0 ?_ | refine zo1 ?_ | refine br_z ?_ | refine br_o ?_ | refine br_zn ?_ | refine br_on ?_ | refine nz2 ?_ | refine nz6 ?_ | refine nz32 ?_ | refine And.intro (by assumption) ?_))); (conv => whnf)
        rw [c0]
        refine ⟨fun h2 => ?_, fun h2 => ?_⟩
        · (repeat ((conv => whnf); (first | refine zo0 ?_ | refine zo1 ?_ | refine br_z ?_ | refine br_o ?_ | refine br_zn ?_ | refine br_on ?_ | refine nz2 ?_ | refine nz6 ?_ | refine nz32 ?_ | refine And.intro (by assumption) ?_))); (conv => whnf)
          rw [e13]
          unfold aMorn at kk
          rw [if_neg h2] at kk
          exact kk
        · (repeat ((conv => whnf); (first | refine zo0 ?_ | refine zo1 ?_ | refine br_z ?_ | refine br_o ?_ | refine br_zn ?_ | refine br_on ?_ | refine nz2 ?_ | refine nz6 ?_ | refine nz32 ?_ | refine And.intro (by assumption) ?_))); (conv => whnf)
          refine ⟨pM (vpl v) s k, mw_run (pM (vpl v) s k) (vev v) allp 48, g, 48, Or.inr rfl, hP, mw_run_ok hP hE 48, px2, w2, ?_⟩
          (repeat ((conv => whnf); (first | refine zo0 ?_ | refine zo1 ?_ | refine br_z ?_ | refine br_o ?_ | refine br_zn ?_ | refine br_on ?_ | refine nz2 ?_ | refine nz6 ?_ | refine nz32 ?_ | refine And.intro (by assumption) ?_))); (conv => whnf)
          unfold aMorn at kk
          rw [if_pos h2] at kk
          exact kk
      | succ m ih =>
        intro i D1 D' hm hf h7 hw hp g1 g2
        have ec : (nI i).toNatClampNeg = i := nI_clamp (by omega)
        have hin : vp_in (nI i) 12 := vp_in_nI (by omega) (by decide)
        have nx : ∀ (z : Int32), z = nI (pM (vpl v) s k 1 i) → am_Wp false 0 cdX_mornings fnX_mornings K 39 [some (.ref 0), some (.int s), some (.int (nI k)), some (.int (nI c)), some (.int (lot s (i + 1))), some (.int (nI i + 1))] [] (am_up D' 19 i z) L := by
          intro z hz
          rw [nI_1]
          refine ih (i + 1) D1 _ (by omega) hf h7 hw hp (fun q hq => (am_up_ne hq).trans (g1 q hq)) (fun d hd => ?_)
          rw [am_up_eq]
          unfold upd
          by_cases ed : d = i
          · rw [if_pos ed, ed]; exact hz
          · rw [if_neg ed]; exact g2 d (by omega)
        have e1 : (1103515245 : Int32) * lot s i + 12345 = lot s (i + 1) := by rw [lot]
        refine am_Wp_bl mfX_mornings [39] 60 _ _ _ _ _ ?_
        (repeat ((conv => whnf); (first | refine zo0 ?_ | refine zo1 ?_ | refine br_z ?_ | refine br_o ?_ | refine br_zn ?_ | refine br_on ?_ | refine nz2 ?_ | refine nz6 ?_ | refine nz32 ?_ | refine And.intro (by assumption) ?_))); (conv => whnf)
        refine ⟨fun h1 => absurd h1 (nI_ge (b := 12) (by omega) (by omega)), fun h1 => ?_⟩
        (repeat ((conv => whnf); (first | refine zo0 ?_ | refine zo1 ?_ | refine br_z ?_ | refine br_o ?_ | refine br_zn ?_ | refine br_on ?_ | refine nz2 ?_ | refine nz6 ?_ | refine nz32 ?_ | refine And.intro (by assumption) ?_))); (conv => whnf)
        rw [nI_leI (by omega) (by omega)]
        refine ⟨fun h2 => ?_, fun h2 => ?_⟩
        · (repeat ((conv => whnf); (first | refine zo0 ?_ | refine zo1 ?_ | refine br_z ?_ | refine br_o ?_ | refine br_zn ?_ | refine br_on ?_ | refine nz2 ?_ | refine nz6 ?_ | refine nz32 ?_ | refine And.intro (by assumption) ?_))); (conv => whnf)
          rw [ec, e1]
          refine nx _ ?_
          show 0 = nI (if i < k then lotW (lot s (i + 1)) else 0)
          rw [if_neg (by omega), nI_0]
        · (repeat ((conv => whnf); (first | refine zo0 ?_ | refine zo1 ?_ | refine br_z ?_ | refine br_o ?_ | refine br_zn ?_ | refine br_on ?_ | refine nz2 ?_ | refine nz6 ?_ | refine nz32 ?_ | refine And.intro (by assumption) ?_))); (conv => whnf)
          rw [ec, e1, lot_eq]
          refine nx _ ?_
          show _ = nI (if i < k then lotW (lot s (i + 1)) else 0)
          rw [if_pos (by omega)]
    (repeat ((conv => whnf); (first | refine zo0 ?_ | refine zo1 ?_ | refine br_z ?_ | refine br_o ?_ | refine br_zn ?_ | refine br_on ?_ | refine nz2 ?_ | refine nz6 ?_ | refine nz32 ?_ | refine And.intro (by assumption) ?_))); (conv => whnf)
    refine ⟨vpl v, hib.2.1.1, fun D1 f1 p1 a1 => ?_⟩
    (repeat ((conv => whnf); (first | refine zo0 ?_ | refine zo1 ?_ | refine br_z ?_ | refine br_o ?_ | refine br_zn ?_ | refine br_on ?_ | refine nz2 ?_ | refine nz6 ?_ | refine nz32 ?_ | refine And.intro (by assumption) ?_))); (conv => whnf)
    have res := loop 12 0 D1 D1 (by omega) (fun k hk => f1 k (by omega)) (a1.trans hib.2.1.2) (iw_fr hi.2.2 (fun k _ _ => f1 k (by omega))) p1 (fun _ _ => rfl) (fun d hd => absurd hd (by omega))
    rw [lot] at res
    exact res
  · exact absurd h id
theorem clX_mornings (l : Launch) : ∀ (a : Nat) (ins : Instr) (b dd : Nat), csX_mornings[a]? = some (ins, b, dd) → am_Call l yX_mornings.cls 4 ins b dd (fnX_mornings a) := by
  intro a ins b dd h
  match a, h with
  | 0, h => cases h; exact am_callV (T := F_4) (N := 8) (okP_take l) wcP_take (am_m3 (i := 122) rfl rfl) wiP_take wsP_take inP rfl (by decide) (by decide +kernel) (by decide) (by decide)
  | 1, h => cases h; exact am_callV (T := F_9) (N := 17) (okW_run l) wcW_run (am_m3 (i := 22) rfl rfl) wiW_run wsW_run inW rfl (by decide) (by decide +kernel) (by decide) (by decide)
  | 2, h => cases h; exact am_callV (T := F_9) (N := 17) (okW_howManyLack l) wcW_howManyLack (am_m3 (i := 127) rfl rfl) wiW_howManyLack wsW_howManyLack inW rfl (by decide) (by decide +kernel) (by decide) (by decide)
  | k + 3, h => simp [csX_mornings] at h
theorem okX_mornings (l : Launch) : am_Ok l yX_mornings prog_1_method_29_code 6 (some .int) 4 spX_mornings := am_ok_of (by decide +kernel) flX_ok kiX_ok klX_ok ckX_mornings (clX_mornings l) wpX_mornings
