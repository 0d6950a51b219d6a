def fnM_askOf : Nat → am_Sp := fun a => match a with
  | 0 => spM_roomsBy
  | 1 => spM_isIn
  | _ => am_no
theorem mfM_askOf : ∀ a, am_mono (fnM_askOf a) := fun a => match a with
  | 0 => moM_roomsBy
  | 1 => moM_isIn
  | _ + 2 => am_no_mono
/-! where to look next -/
def seeR (v : vs_T) (r : Nat) : Bool := mS v (pR (vpl v) r) allp
def cntR (v : vs_T) (t a : Nat) : Nat → Nat
  | 0 => 0
  | k + 1 => cntR v t a k + (if seeR v a = true ∧ seeR v (1 + k) = true ∧ pos v a t = pos v (1 + k) t then 1 else 0)
def mostR (v : vs_T) (t : Nat) : Nat → Nat
  | 0 => 0
  | k + 1 => if mostR v t k < cntR v t (1 + k) 8 then cntR v t (1 + k) 8 else mostR v t k
def askR (v : vs_T) : Nat → Option (Nat × Nat)
  | 0 => none
  | t + 1 => match askR v t with
    | none => some (t, mostR v t 8)
    | some (b, l) => if mostR v t 8 < l then some (t, mostR v t 8) else some (b, l)
def askI (o : Option (Nat × Nat)) : Int32 := match o with
  | none => -1
  | some (b, _) => nI b
def askL (o : Option (Nat × Nat)) : Int32 := match o with
  | none => 0
  | some (_, l) => nI l
def aAsk (v : vs_T) : Int32 := askI (askR v 48)
theorem cntR_le (v : vs_T) (t a : Nat) : ∀ k, cntR v t a k ≤ k
  | 0 => Nat.le_refl 0
  | k + 1 => by
    have := cntR_le v t a k
    simp only [cntR]
    split <;> omega
theorem mostR_le (v : vs_T) (t : Nat) : ∀ k, mostR v t k ≤ 8
  | 0 => by simp [mostR]
  | k + 1 => by
    have := mostR_le v t k
    have := cntR_le v t (1 + k) 8
    simp only [mostR]
    split <;> omega
def askOk (o : Option (Nat × Nat)) : Prop := match o with
  | none => True
  | some (b, l) => b < 48 ∧ l ≤ 8
theorem askR_ok (v : vs_T) : ∀ t, t ≤ 48 → askOk (askR v t)
  | 0, _ => trivial
  | t + 1, h => by
    have ih := askR_ok v t (by omega)
    have := mostR_le v t 8
    simp only [askR]
    split
    · exact ⟨by omega, this⟩
    · rename_i b l e
      rw [e] at ih
      split
      · exact ⟨by omega, this⟩
      · exact ih
def spM_askOf : am_Sp := fun as D L K => match as with
  | [.ref 49] => ∃ (v : vs_T), vok v ∧ im D v ∧ ∀ D', fq D D' → K (some (.int (aAsk v))) D' L
  | _ => False
theorem moM_askOf : am_mono spM_askOf := by
  intro as D L K K' hK h
  unfold spM_askOf at h ⊢
  split at h
  · obtain ⟨z0, z1, z2, hz⟩ := h
    exact ⟨z0, z1, z2, fun D' q => hK _ _ _ (hz D' q)⟩
  · exact h
theorem wpM_askOf : ∀ (as : List Value) (D : am_D) (L : am_L) (K : am_K), spM_askOf as D L K → am_fit 9 as = true ∧ am_Wp false 0 cdM_askOf fnM_askOf K 0 (am_lo 9 as) [] D L := by
  intro as D L K h
  unfold spM_askOf at h
  split at h
  · obtain ⟨v, hv, hi, hK⟩ := h
    have ri : ∀ {D' : am_D}, True := fun {_} => trivial
    refine ⟨rfl, am_Wp_bl mfM_askOf [12] 40 _ _ _ _ _ ?_⟩
    (repeat ((conv => whnf); (first | refine zo0 ?_ | refine zo1 ?_ | refine br_z ?_ | refine br_o ?_ | refine br_zn ?_ | refine br_on ?_ | refine nz2 ?_ | refine nz6 ?_ | refine nz32 ?_ | refine And.intro (by assumption) ?_))); (conv => whnf)
    refine ⟨v, hv, hi, fun D1 f1 hrow => ?_⟩
    have k := hK D1 f1
    have hpos : ∀ r, 1 ≤ r → r ≤ 8 → ∀ t, pos v r t ≤ 11 := fun r h1 h2 t => (mw_run_ok (pr := allp) (pR_ok (vpl_ok hv) h1 h2) (vev_ok hv) (t + 1)).1
    -- how many b are like a
    have cnt : ∀ (t a : Nat) (bst lst : Int32) (mo : Nat), t < 48 → 1 ≤ a → a ≤ 8 → (am_Wp false 0 cdM_askOf fnM_askOf K 108 [some (.ref 49), some (.int (aRooms v)), some (.int bst), some (.int lst), some (.int (nI t)), some (.int (nI mo)), some (.int (nI a)), some (.int (nI (cntR v t a 8))), some (.int (nI 9))] [] D1 L) →
        ∀ (m i : Nat), i + m = 8 → am_Wp false 0 cdM_askOf fnM_askOf K 38 [some (.ref 49), some (.int (aRooms v)), some (.int bst), some (.int lst), some (.int (nI t)), some (.int (nI mo)), some (.int (nI a)), some (.int (nI (cntR v t a i))), some (.int (nI (1 + i)))] [] D1 L := by
      intro t a bst lst mo ht a1 a2 hout m
      induction m with
      | zero =>
        intro i hi'
        have ei : i = 8 := by omega
        subst ei
        refine am_Wp_bl mfM_askOf [108] 40 _ _ _ _ _ ?_
        (repeat ((conv => whnf); (first | refine zo0 ?_ | refine zo1 ?_ | refine br_z ?_ | refine br_o ?_ | refine br_zn ?_ | refine br_on ?_ | refine nz2 ?_ | refine nz6 ?_ | refine nz32 ?_ | refine And.intro (by assumption) ?_))); (conv => whnf)
        refine ⟨fun h1 => ?_, fun h1 => absurd (nI_le (a := 9) (by omega) (by omega)) h1⟩
        (repeat ((conv => whnf); (first | refine zo0 ?_ | refine zo1 ?_ | refine br_z ?_ | refine br_o ?_ | refine br_zn ?_ | refine br_on ?_ | refine nz2 ?_ | refine nz6 ?_ | refine nz32 ?_ | refine And.intro (by assumption) ?_))); (conv => whnf)
        exact hout
      | succ m ih =>
        intro i hi'
        have e48 : (48 : Int32) * nI a + nI t = nI (48 * a + t) := by rw [show (48 : Int32) = nI 48 by decide +kernel, pk_mul, nI_add]
        have e48b : (48 : Int32) * nI (1 + i) + nI t = nI (48 * (1 + i) + t) := by rw [show (48 : Int32) = nI 48 by decide +kernel, pk_mul, nI_add]
        have ina : vp_in (nI (48 * a + t)) 432 := vp_in_nI (by omega) (by decide)
        have inb : vp_in (nI (48 * (1 + i) + t)) 432 := vp_in_nI (by omega) (by decide)
        have eca : (nI (48 * a + t)).toNatClampNeg = 48 * a + t := nI_clamp (by omega)
        have ecb : (nI (48 * (1 + i) + t)).toNatClampNeg = 48 * (1 + i) + t := nI_clamp (by omega)
        have ra := hrow a a1 a2 t ht
        have rb := hrow (1 + i) (by omega) (by omega) t ht
        have pa := hpos a a1 a2 t
        have pb := hpos (1 + i) (by omega) (by omega) t
        have ba := rooms_bit (v := v) a1 a2
        have bb := rooms_bit (v := v) (j := 1 + i) (by omega) (by omega)
        have res := ih (i + 1) (by omega)
        rw [cntR, show 1 + (i + 1) = (1 + i) + 1 by omega, ← nI_1 (1 + i)] at res
        have no : ¬ (seeR v a = true ∧ seeR v (1 + i) = true ∧ pos v a t = pos v (1 + i) t) → am_Wp false 0 cdM_askOf fnM_askOf K 38 [some (.ref 49), some (.int (aRooms v)), some (.int bst), some (.int lst), some (.int (nI t)), some (.int (nI mo)), some (.int (nI a)), some (.int (nI (cntR v t a i) + 0)), some (.int (nI (1 + i) + 1))] [] D1 L := by
          intro q
          rw [if_neg q, ← nI_add, nI_0] at res
          exact res
        refine am_Wp_bl mfM_askOf [38] 60 _ _ _ _ _ ?_
        (repeat ((conv => whnf); (first | refine zo0 ?_ | refine zo1 ?_ | refine br_z ?_ | refine br_o ?_ | refine br_zn ?_ | refine br_on ?_ | refine nz2 ?_ | refine nz6 ?_ | refine nz32 ?_ | refine And.intro (by assumption) ?_))); (conv => whnf)
        refine ⟨fun h1 => absurd h1 (nI_ge (b := 9) (by omega) (by omega)), fun h1 => ?_⟩
        (repeat ((conv => whnf); (first | refine zo0 ?_ | refine zo1 ?_ | refine br_z ?_ | refine br_o ?_ | refine br_zn ?_ | refine br_on ?_ | refine nz2 ?_ | refine nz6 ?_ | refine nz32 ?_ | refine And.intro (by assumption) ?_))); (conv => whnf)
        rw [ba]
        refine ⟨fun h2 => ?_, fun h2 => ?_⟩
        · (repeat ((conv => whnf); (first | refine zo0 ?_ | refine zo1 ?_ | refine br_z ?_ | refine br_o ?_ | refine br_zn ?_ | refine br_on ?_ | refine nz2 ?_ | refine nz6 ?_ | refine nz32 ?_ | refine And.intro (by assumption) ?_))); (conv => whnf)
          exact no (fun q => by rw [show seeR v a = mS v (pR (vpl v) a) allp from rfl, h2] at q; exact absurd q.1 (by decide))
        · (repeat ((conv => whnf); (first | refine zo0 ?_ | refine zo1 ?_ | refine br_z ?_ | refine br_o ?_ | refine br_zn ?_ | refine br_on ?_ | refine nz2 ?_ | refine nz6 ?_ | refine nz32 ?_ | refine And.intro (by assumption) ?_))); (conv => whnf)
          rw [bb]
          refine ⟨fun h3 => ?_, fun h3 => ?_⟩
          · (repeat ((conv => whnf); (first | refine zo0 ?_ | refine zo1 ?_ | refine br_z ?_ | refine br_o ?_ | refine br_zn ?_ | refine br_on ?_ | refine nz2 ?_ | refine nz6 ?_ | refine nz32 ?_ | refine And.intro (by assumption) ?_))); (conv => whnf)
            exact no (fun q => by rw [show seeR v (1 + i) = mS v (pR (vpl v) (1 + i)) allp from rfl, h3] at q; exact absurd q.2.1 (by decide))
          · (repeat ((conv => whnf); (first | refine zo0 ?_ | refine zo1 ?_ | refine br_z ?_ | refine br_o ?_ | refine br_zn ?_ | refine br_on ?_ | refine nz2 ?_ | refine nz6 ?_ | refine nz32 ?_ | refine And.intro (by assumption) ?_))); (conv => whnf)
            rw [e48]
            (repeat ((conv => whnf); (first | refine zo0 ?_ | refine zo1 ?_ | refine br_z ?_ | refine br_o ?_ | refine br_zn ?_ | refine br_on ?_ | refine nz2 ?_ | refine nz6 ?_ | refine nz32 ?_ | refine And.intro (by assumption) ?_))); (conv => whnf)
            rw [e48b]
            (repeat ((conv => whnf); (first | refine zo0 ?_ | refine zo1 ?_ | refine br_z ?_ | refine br_o ?_ | refine br_zn ?_ | refine br_on ?_ | refine nz2 ?_ | refine nz6 ?_ | refine nz32 ?_ | refine And.intro (by assumption) ?_))); (conv => whnf)
            rw [eca, ecb, ra, rb, nI_eq (by omega) (by omega)]
            refine ⟨fun h4 => ?_, fun h4 => ?_⟩
            · (repeat ((conv => whnf); (first | refine zo0 ?_ | refine zo1 ?_ | refine br_z ?_ | refine br_o ?_ | refine br_zn ?_ | refine br_on ?_ | refine nz2 ?_ | refine nz6 ?_ | refine nz32 ?_ | refine And.intro (by assumption) ?_))); (conv => whnf)
              exact no (fun q => h4 q.2.2)
            · (repeat ((conv => whnf); (first | refine zo0 ?_ | refine zo1 ?_ | refine br_z ?_ | refine br_o ?_ | refine br_zn ?_ | refine br_on ?_ | refine nz2 ?_ | refine nz6 ?_ | refine nz32 ?_ | refine And.intro (by assumption) ?_))); (conv => whnf)
              rw [if_pos ⟨by cases q : seeR v a with | true => rfl | false => exact absurd q h2, by cases q : seeR v (1 + i) with | true => rfl | false => exact absurd q h3, h4⟩, ← nI_1] at res
              exact res
    -- the most
    have most : ∀ (t : Nat) (bst lst : Int32), t < 48 → (∀ k7 k8, am_Wp false 0 cdM_askOf fnM_askOf K 130 [some (.ref 49), some (.int (aRooms v)), some (.int bst), some (.int lst), some (.int (nI t)), some (.int (nI (mostR v t 8))), some (.int (nI 9)), k7, k8] [] D1 L) →
        ∀ (m i : Nat) (k7 k8 : Option Value), i + m = 8 → am_Wp false 0 cdM_askOf fnM_askOf K 25 [some (.ref 49), some (.int (aRooms v)), some (.int bst), some (.int lst), some (.int (nI t)), some (.int (nI (mostR v t i))), some (.int (nI (1 + i))), k7, k8] [] D1 L := by
      intro t bst lst ht hout m
      induction m with
      | zero =>
        intro i k7 k8 hi'
        have ei : i = 8 := by omega
        subst ei
        refine am_Wp_bl mfM_askOf [130] 40 _ _ _ _ _ ?_
        (repeat ((conv => whnf); (first | refine zo0 ?_ | refine zo1 ?_ | refine br_z ?_ | refine br_o ?_ | refine br_zn ?_ | refine br_on ?_ | refine nz2 ?_ | refine nz6 ?_ | refine nz32 ?_ | refine And.intro (by assumption) ?_))); (conv => whnf)
        refine ⟨fun h1 => ?_, fun h1 => absurd (nI_le (a := 9) (by omega) (by omega)) h1⟩
        (repeat ((conv => whnf); (first | refine zo0 ?_ | refine zo1 ?_ | refine br_z ?_ | refine br_o ?_ | refine br_zn ?_ | refine br_on ?_ | refine nz2 ?_ | refine nz6 ?_ | refine nz32 ?_ | refine And.intro (by assumption) ?_))); (conv => whnf)
        exact hout k7 k8
      | succ m ih =>
        intro i k7 k8 hi'
        have c8 := cntR_le v t (1 + i) 8
        have m8 := mostR_le v t i
        refine am_Wp_bl mfM_askOf [38] 40 _ _ _ _ _ ?_
        (repeat ((conv => whnf); (first | refine zo0 ?_ | refine zo1 ?_ | refine br_z ?_ | refine br_o ?_ | refine br_zn ?_ | refine br_on ?_ | refine nz2 ?_ | refine nz6 ?_ | refine nz32 ?_ | refine And.intro (by assumption) ?_))); (conv => whnf)
        refine ⟨fun h1 => absurd h1 (nI_ge (b := 9) (by omega) (by omega)), fun h1 => ?_⟩
        (repeat ((conv => whnf); (first | refine zo0 ?_ | refine zo1 ?_ | refine br_z ?_ | refine br_o ?_ | refine br_zn ?_ | refine br_on ?_ | refine nz2 ?_ | refine nz6 ?_ | refine nz32 ?_ | refine And.intro (by assumption) ?_))); (conv => whnf)
        refine cnt t (1 + i) bst lst (mostR v t i) ht (by omega) (by omega) ?_ 8 0 (by omega)
        have res := ih (i + 1) (some (.int (nI (cntR v t (1 + i) 8)))) (some (.int (nI 9))) (by omega)
        rw [mostR, show 1 + (i + 1) = (1 + i) + 1 by omega, ← nI_1 (1 + i)] at res
        refine am_Wp_bl mfM_askOf [25] 40 _ _ _ _ _ ?_
        (repeat ((conv => whnf); (first | refine zo0 ?_ | refine zo1 ?_ | refine br_z ?_ | refine br_o ?_ | refine br_zn ?_ | refine br_on ?_ | refine nz2 ?_ | refine nz6 ?_ | refine nz32 ?_ | refine And.intro (by assumption) ?_))); (conv => whnf)
        rw [nI_leI (by omega) (by omega)]
        refine ⟨fun h2 => ?_, fun h2 => ?_⟩
        · (repeat ((conv => whnf); (first | refine zo0 ?_ | refine zo1 ?_ | refine br_z ?_ | refine br_o ?_ | refine br_zn ?_ | refine br_on ?_ | refine nz2 ?_ | refine nz6 ?_ | refine nz32 ?_ | refine And.intro (by assumption) ?_))); (conv => whnf)
          rw [if_neg (by omega)] at res
          exact res
        · (repeat ((conv => whnf); (first | refine zo0 ?_ | refine zo1 ?_ | refine br_z ?_ | refine br_o ?_ | refine br_zn ?_ | refine br_on ?_ | refine nz2 ?_ | refine nz6 ?_ | refine nz32 ?_ | refine And.intro (by assumption) ?_))); (conv => whnf)
          rw [if_pos (by omega)] at res
          exact res
    have loop : ∀ (m i : Nat) (k5 k6 k7 k8 : Option Value), i + m = 48 → (∀ x, k5 ≠ some (.long x)) → (∀ x, k5 ≠ some (.double x)) → am_Wp false 0 cdM_askOf fnM_askOf K 12 [some (.ref 49), some (.int (aRooms v)), some (.int (askI (askR v i))), some (.int (askL (askR v i))), some (.int (nI i)), k5, k6, k7, k8] [] D1 L := by
      intro m
      induction m with
      | zero =>
        intro i k5 k6 k7 k8 hi' _ _
        have ei : i = 48 := by omega
        subst ei
        refine am_Wp_bl mfM_askOf [12] 40 _ _ _ _ _ ?_
        (repeat ((conv => whnf); (first | refine zo0 ?_ | refine zo1 ?_ | refine br_z ?_ | refine br_o ?_ | refine br_zn ?_ | refine br_on ?_ | refine nz2 ?_ | refine nz6 ?_ | refine nz32 ?_ | refine And.intro (by assumption) ?_))); (conv => whnf)
        refine ⟨fun h1 => ?_, fun h1 => absurd (nI_le (a := 48) (by omega) (by omega)) h1⟩
        (repeat ((conv => whnf); (first | refine zo0 ?_ | refine zo1 ?_ | refine br_z ?_ | refine br_o ?_ | refine br_zn ?_ | refine br_on ?_ | refine nz2 ?_ | refine nz6 ?_ | refine nz32 ?_ | refine And.intro (by assumption) ?_))); (conv => whnf)
        exact k
      | succ m ih =>
        intro i k5 k6 k7 k8 hi' _ _
        have m8 := mostR_le v i 8
        have ao := askR_ok v i (by omega)
        refine am_Wp_bl mfM_askOf [25] 40 _ _ _ _ _ ?_
        (repeat ((conv => whnf); (first | refine zo0 ?_ | refine zo1 ?_ | refine br_z ?_ | refine br_o ?_ | refine br_zn ?_ | refine br_on ?_ | refine nz2 ?_ | refine nz6 ?_ | refine nz32 ?_ | refine And.intro (by assumption) ?_))); (conv => whnf)
        refine ⟨fun h1 => absurd h1 (nI_ge (b := 48) (by omega) (by omega)), fun h1 => ?_⟩
        (repeat ((conv => whnf); (first | refine zo0 ?_ | refine zo1 ?_ | refine br_z ?_ | refine br_o ?_ | refine br_zn ?_ | refine br_on ?_ | refine nz2 ?_ | refine nz6 ?_ | refine nz32 ?_ | refine And.intro (by assumption) ?_))); (conv => whnf)
        refine most i _ _ (by omega) (fun k7 k8 => ?_) 8 0 _ _ (by omega)
        have res := fun k6 => ih (i + 1) (some (.int (nI (mostR v i 8)))) k6 k7 k8 (by omega) (fun x hx => by cases hx) (fun x hx => by cases hx)
        simp only [askR] at res
        simp only [← nI_1] at res
        generalize askR v i = o at res ao
        refine am_Wp_bl mfM_askOf [12] 60 _ _ _ _ _ ?_
        (repeat ((conv => whnf); (first | refine zo0 ?_ | refine zo1 ?_ | refine br_z ?_ | refine br_o ?_ | refine br_zn ?_ | refine br_on ?_ | refine nz2 ?_ | refine nz6 ?_ | refine nz32 ?_ | refine And.intro (by assumption) ?_))); (conv => whnf)
        cases o with
        | none =>
          refine ⟨fun _ => ?_, fun q => absurd rfl q⟩
          (repeat ((conv => whnf); (first | refine zo0 ?_ | refine zo1 ?_ | refine br_z ?_ | refine br_o ?_ | refine br_zn ?_ | refine br_on ?_ | refine nz2 ?_ | refine nz6 ?_ | refine nz32 ?_ | refine And.intro (by assumption) ?_))); (conv => whnf)
          exact res _
        | some q =>
          obtain ⟨b, l⟩ := q
          obtain ⟨o1, o2⟩ := ao
          have eb : ¬ askI (some (b, l)) = -1 := nI_m1 b (by omega)
          refine ⟨fun h2 => absurd h2 eb, fun _ => ?_⟩
          (repeat ((conv => whnf); (first | refine zo0 ?_ | refine zo1 ?_ | refine br_z ?_ | refine br_o ?_ | refine br_zn ?_ | refine br_on ?_ | refine nz2 ?_ | refine nz6 ?_ | refine nz32 ?_ | refine And.intro (by assumption) ?_))); (conv => whnf)
          have el : askL (some (b, l)) = nI l := rfl
          rw [el, nI_leI (by omega) (by omega)]
          refine ⟨fun h3 => ?_, fun h3 => ?_⟩
          · (repeat ((conv => whnf); (first | refine zo0 ?_ | refine zo1 ?_ | refine br_z ?_ | refine br_o ?_ | refine br_zn ?_ | refine br_on ?_ | refine nz2 ?_ | refine nz6 ?_ | refine nz32 ?_ | refine And.intro (by assumption) ?_))); (conv => whnf)
            have r := res (some (.int 0))
            simp only [if_neg (show ¬ mostR v i 8 < l by omega)] at r
            exact r
          · (repeat ((conv => whnf); (first | refine zo0 ?_ | refine zo1 ?_ | refine br_z ?_ | refine br_o ?_ | refine br_zn ?_ | refine br_on ?_ | refine nz2 ?_ | refine nz6 ?_ | refine nz32 ?_ | refine And.intro (by assumption) ?_))); (conv => whnf)
            have r := res (some (.int 1))
            simp only [if_pos (show mostR v i 8 < l by omega)] at r
            exact r
    (repeat ((conv => whnf); (first | refine zo0 ?_ | refine zo1 ?_ | refine br_z ?_ | refine br_o ?_ | refine br_zn ?_ | refine br_on ?_ | refine nz2 ?_ | refine nz6 ?_ | refine nz32 ?_ | refine And.intro (by assumption) ?_))); (conv => whnf)
    exact loop 48 0 none none none none (by omega) (fun x hx => by cases hx) (fun x hx => by cases hx)
  · exact absurd h id
theorem clM_askOf (l : Launch) : ∀ (a : Nat) (ins : Instr) (b dd : Nat), csM_askOf[a]? = some (ins, b, dd) → am_Call l yM_askOf.cls 8 ins b dd (fnM_askOf a) := by
  intro a ins b dd h
  match a, h with
  | 0, h => cases h; exact am_callV (T := F_11) (N := 52) (okM_roomsBy l) wcM_roomsBy (am_m6 (i := 61) rfl rfl) wiM_roomsBy wsM_roomsBy inM rfl (by decide) (by decide +kernel) (by decide) (by decide)
  | 1, h => cases h; exact am_callS (okM_isIn l) wcM_isIn (am_m5 (i := 136) rfl rfl) wtM_isIn inM (by decide +kernel) (by decide) (by decide)
  | k + 2, h => simp [csM_askOf] at h
theorem okM_askOf (l : Launch) : am_Ok l yM_askOf prog_13_method_76_code 9 (some .int) 8 spM_askOf := am_ok_of (by decide +kernel) flM_ok kiM_ok klM_ok ckM_askOf (clM_askOf l) wpM_askOf
