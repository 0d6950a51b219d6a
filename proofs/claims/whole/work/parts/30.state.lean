/-! what was told: one state for both -/
abbrev vs_T : Type := Nat → Nat → Int32
def vn (v : vs_T) (c i : Nat) : Nat := (v c i).toNatClampNeg
def vbad (t : Nat) (b : Nat) : Bool := bif Nat.blt t 2 then !(Nat.ble 48 b && Nat.ble b 53) else !(Nat.ble 97 b && Nat.ble b 108)
def vcap (t : Nat) : Nat := bif Nat.blt t 2 then 12 else 24
def vlow (t : Nat) : Nat := bif Nat.blt t 2 then 48 else 97
/-- the first byte at k or behind, of n, with which text t cannot go on -/
def vfl (v : vs_T) (t k : Nat) : Nat → Option Nat
  | 0 => none
  | n + 1 => if vbad t (vn v 1 (24 * t + k)) = true then some k else vfl v t (k + 1) n
def vflt (v : vs_T) (t : Nat) : Option Nat := vfl v t 0 (vn v 0 t)
def vfI (o : Option Nat) : Int32 := match o with
  | none => -1
  | some k => nI k
/-- how many places of a text mean something -/
def vlen (v : vs_T) (t : Nat) : Nat := if vflt v t = none then vn v 0 t else 0
def vmean (v : vs_T) (t i : Nat) : Nat := if i < vlen v t then vn v 1 (24 * t + i) - vlow t else 0
def vpl (v : vs_T) : mw_T := fun c => if c = 0 then (fun i => if i = 0 then vlen v 2 else vn v 0 (i + 2)) else if c = 1 then vmean v 0 else if c = 2 then vmean v 1 else vmean v 2
def vev (v : vs_T) : mw_T := fun c => if c = 0 then (fun _ => vn v 0 6) else fun i => vn v (c + 1) i
/-- every number is where it may be -/
def vok (v : vs_T) : Prop := (∀ t, t < 3 → ∃ n, n ≤ vcap t ∧ v 0 t = nI n) ∧ (∀ i, i < 72 → ∃ n, n ≤ 255 ∧ v 1 i = nI n) ∧ (∃ n, n ≤ 2 ∧ v 0 3 = nI n) ∧ (∃ n, 1 ≤ n ∧ n ≤ 8 ∧ v 0 4 = nI n) ∧ (∃ n, n ≤ 60 ∧ v 0 5 = nI n) ∧ (∃ n, n ≤ 8 ∧ v 0 6 = nI n ∧ ∀ i, i < n → (∃ a, a ≤ 2 ∧ v 2 i = nI a) ∧ (∃ a, a ≤ 47 ∧ v 3 i = nI a) ∧ ∃ a, a ≤ 11 ∧ v 4 i = nI a) ∧
  (∃ n, n ≤ 8 ∧ v 0 7 = nI n ∧ ∀ i, i < n → (∃ a, a ≤ 47 ∧ v 5 i = nI a) ∧ ∃ a, a ≤ 11 ∧ v 6 i = nI a) ∧ ∀ s, s < 4 → (v 7 s = 0 ∨ v 7 s = 1) ∧ (∃ a, a ≤ 2 ∧ v 8 s = nI a) ∧ ∃ a, a ≤ 60 ∧ v 9 s = nI a
theorem vn_nI {v : vs_T} {c i n : Nat} (h : v c i = nI n) (hn : n < 2 ^ 31) : vn v c i = n := by unfold vn; rw [h]; exact nI_clamp hn
theorem vn_eq {v : vs_T} {c i : Nat} (h : ∃ n, n < 4000 ∧ v c i = nI n) : v c i = nI (vn v c i) := by
  obtain ⟨n, h1, h2⟩ := h
  rw [vn_nI h2 (by omega)]
  exact h2
theorem vok_len {v : vs_T} (h : vok v) {t : Nat} (ht : t < 3) : v 0 t = nI (vn v 0 t) ∧ vn v 0 t ≤ vcap t := by
  obtain ⟨n, h1, h2⟩ := h.1 t ht
  have : vcap t ≤ 24 := by unfold vcap; cases Nat.blt t 2 <;> decide
  rw [vn_nI h2 (by omega)]
  exact ⟨h2, h1⟩
theorem vok_byte {v : vs_T} (h : vok v) {i : Nat} (hi : i < 72) : v 1 i = nI (vn v 1 i) ∧ vn v 1 i ≤ 255 := by
  obtain ⟨n, h1, h2⟩ := h.2.1 i hi
  rw [vn_nI h2 (by omega)]
  exact ⟨h2, h1⟩
theorem vcap_le (t : Nat) : vcap t ≤ 24 := by unfold vcap; cases Nat.blt t 2 <;> decide
theorem vfl_good {v : vs_T} {t : Nat} : ∀ (n k : Nat), vfl v t k n = none → ∀ i, k ≤ i → i < k + n → vbad t (vn v 1 (24 * t + i)) = false
  | 0, k, _, i, h1, h2 => by omega
  | n + 1, k, h, i, h1, h2 => by
    unfold vfl at h
    split at h
    · cases h
    · rename_i q
      by_cases e : i = k
      · rw [e]; exact Bool.eq_false_iff.mpr q
      · exact vfl_good n (k + 1) h i (by omega) (by omega)
theorem vlen_le {v : vs_T} (h : vok v) {t : Nat} (ht : t < 3) : vlen v t ≤ vcap t := by
  unfold vlen
  split
  · exact (vok_len h ht).2
  · exact Nat.zero_le _
theorem vlen_good {v : vs_T} {t i : Nat} (hi : i < vlen v t) : vbad t (vn v 1 (24 * t + i)) = false := by
  unfold vlen at hi
  split at hi
  · rename_i q
    exact vfl_good _ 0 q i (by omega) (by omega)
  · omega
theorem vmean_le {v : vs_T} {t : Nat} (i : Nat) : vmean v t i ≤ (bif Nat.blt t 2 then 5 else 11) := by
  unfold vmean
  split
  · rename_i q
    have := vlen_good q
    unfold vbad at this
    unfold vlow
    cases h : Nat.blt t 2 <;> rw [h] at this <;> simp only [cond_true, cond_false, Bool.not_eq_false', Bool.and_eq_true] at this ⊢ <;> have a := Nat.le_of_ble_eq_true this.1 <;> have b := Nat.le_of_ble_eq_true this.2 <;> omega
  · exact Nat.zero_le _
theorem vpl_ok {v : vs_T} (h : vok v) : mw_pok (vpl v) := by
  obtain ⟨n3, a3, b3⟩ := h.2.2.1
  obtain ⟨n4, a4, a4', b4⟩ := h.2.2.2.1
  obtain ⟨n5, a5, b5⟩ := h.2.2.2.2.1
  refine ⟨?_, ?_, ?_, ?_, ?_, fun d _ => ⟨?_, ?_⟩, fun i _ => ?_⟩
  · exact vlen_le h (t := 2) (by decide)
  · show vn v 0 3 ≤ 2
    rw [vn_nI b3 (by omega)]; exact a3
  · show 1 ≤ vn v 0 4
    rw [vn_nI b4 (by omega)]; exact a4
  · show vn v 0 4 ≤ 8
    rw [vn_nI b4 (by omega)]; exact a4'
  · show vn v 0 5 ≤ 60
    rw [vn_nI b5 (by omega)]; exact a5
  · exact vmean_le (t := 0) d
  · exact vmean_le (t := 1) d
  · exact vmean_le (t := 2) i
theorem vev_ok {v : vs_T} (h : vok v) : mw_eok (vev v) := by
  obtain ⟨n, h1, h2, h3⟩ := h.2.2.2.2.2.1
  have e : vev v 0 0 = n := vn_nI h2 (by omega)
  refine ⟨by rw [e]; exact h1, fun i hi => ?_⟩
  rw [e] at hi
  obtain ⟨⟨a, a1, a2⟩, ⟨b, b1, b2⟩, ⟨c, c1, c2⟩⟩ := h3 i hi
  refine ⟨?_, ?_, ?_⟩
  · show vn v 2 i ≤ 2
    rw [vn_nI a2 (by omega)]; exact a1
  · show vn v 3 i ≤ 47
    rw [vn_nI b2 (by omega)]; exact b1
  · show vn v 4 i ≤ 11
    rw [vn_nI c2 (by omega)]; exact c1
