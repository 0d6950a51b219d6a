/-! ranges; parts of the state that a change leaves alone -/
theorem rn0 {x lo hi : Int32} (h : x < lo) : ¬ (lo ≤ x ∧ x ≤ hi) := fun q => Int32.not_lt.mpr q.1 h
theorem rn1 {x lo hi : Int32} (h : hi < x) : ¬ (lo ≤ x ∧ x ≤ hi) := fun q => Int32.not_lt.mpr q.2 h
theorem rn2 {x lo hi : Int32} (h : ¬ x ≤ hi) : ¬ (lo ≤ x ∧ x ≤ hi) := fun q => h q.2
theorem rq1 {x lo hi : Int32} (h1 : ¬ x < lo) (h2 : ¬ hi < x) : lo ≤ x ∧ x ≤ hi := ⟨Int32.not_lt.mp h1, Int32.not_lt.mp h2⟩
theorem rgp {x : Int32} {n : Nat} (hn : n < 2 ^ 30) : nI (n + 1) ≤ x ↔ ¬ x ≤ nI n := by
  rw [Int32.le_iff_toInt_le, Int32.le_iff_toInt_le, nI_toInt (by omega), nI_toInt (by omega)]
  omega
theorem rn3 {x lo hi : Int32} (n : Nat) (h : nI (n + 1) ≤ x) (e : hi = nI n := by rfl) (hn : n < 2 ^ 30 := by omega) : ¬ (lo ≤ x ∧ x ≤ hi) := fun q => by
  rw [e] at q
  exact (rgp hn).mp h q.2
theorem rq3 {x lo hi : Int32} (n : Nat) (h1 : ¬ x < lo) (h2 : ¬ nI (n + 1) ≤ x) (e : hi = nI n := by rfl) (hn : n < 2 ^ 30 := by omega) : lo ≤ x ∧ x ≤ hi := ⟨Int32.not_lt.mp h1, by rw [e]; exact Decidable.not_not.mp (fun q => h2 ((rgp hn).mpr q))⟩
theorem isd_iff {x : Int32} : isd x ↔ 0 ≤ x ∧ x ≤ 11 := ⟨fun h => rq3 11 h.1 h.2, fun h => ⟨Int32.not_lt.mpr h.1, fun q => rn3 (lo := 0) (hi := 11) 11 q rfl (by omega) h⟩⟩
theorem ism_iff {x : Int32} : ism x ↔ 0 ≤ x ∧ x ≤ 47 := ⟨fun h => rq3 47 h.1 h.2, fun h => ⟨Int32.not_lt.mpr h.1, fun q => rn3 (lo := 0) (hi := 47) 47 q rfl (by omega) h⟩⟩
theorem pe_v {v v' : vs_T} (h0 : ∀ i, i ≤ 5 → v' 0 i = v 0 i) (h1 : v' 1 = v 1) : pe (vpl v) (vpl v') := by
  refine ⟨fun j hj => ?_, vmean_cg (h0 0 (by omega)) h1, vmean_cg (h0 1 (by omega)) h1, vmean_cg (h0 2 (by omega)) h1⟩
  show (if j = 0 then vlen v' 2 else vn v' 0 (j + 2)) = (if j = 0 then vlen v 2 else vn v 0 (j + 2))
  rw [vlen_cg (h0 2 (by omega)) h1, vn_cg (h0 (j + 2) (by omega))]
theorem it_cg {D : am_D} {v v' : vs_T} (h0 : ∀ i, i < 3 → v' 0 i = v 0 i) (h1 : v' 1 = v 1) (h : it D v) : it D v' := fun t ht => by
  rw [h0 t ht, h1]
  exact h t ht
theorem ipl_cg {D : am_D} {v v' : vs_T} (h0 : ∀ i, i ≤ 5 → v' 0 i = v 0 i) (h1 : v' 1 = v 1) (h : ipl D v) : ipl D v' := ⟨px_pe (pe_v h0 h1) h.1, h.2⟩
theorem ie_cg {D : am_D} {v v' : vs_T} (h0 : v' 0 6 = v 0 6) (h2 : v' 2 = v 2) (h3 : v' 3 = v 3) (h4 : v' 4 = v 4) (h : ie D v) : ie D v' := by
  unfold ie at h ⊢
  rw [h0, h2, h3, h4]
  exact h
theorem isg_cg {D : am_D} {v v' : vs_T} (h0 : v' 0 7 = v 0 7) (h2 : v' 5 = v 5) (h3 : v' 6 = v 6) (h : isg D v) : isg D v' := by
  unfold isg at h ⊢
  rw [h0, h2, h3]
  exact h
theorem ish_cg {D : am_D} {v v' : vs_T} (h0 : v' 7 = v 7) (h1 : v' 8 = v 8) (h2 : v' 9 = v 9) (h3 : v' 10 = v 10) (h : ish D v) : ish D v' := by
  unfold ish at h ⊢
  rw [h0, h1, h2, h3]
  exact h
theorem gEvent_0 {v : vs_T} {x y z : Int32} {i : Nat} (hi : i ≠ 6) : gEvent v x y z 0 i = v 0 i := by
  unfold gEvent
  split
  · split
    · split
      · split
        · rfl
        · simp [ap, hi]
      · rfl
    · rfl
  · rfl
theorem gEvent_1 {v : vs_T} {x y z : Int32} : gEvent v x y z 1 = v 1 := by
  unfold gEvent
  split
  · split
    · split
      · split
        · rfl
        · rw [am_up_ne (by decide), am_up_ne (by decide), am_up_ne (by decide), am_up_ne (by decide)]
      · rfl
    · rfl
  · rfl
theorem ix_ie {D D1 : am_D} {v : vs_T} (h : ix D v) (f : ∀ k, k < 7 ∨ 10 < k → D1 k = D k) (h1 : ie D1 v) : ix D1 v := by
  obtain ⟨⟨a1, a2, a3, a4, a5, a6⟩, b, c⟩ := h
  exact ⟨⟨it_fr a1 (fun k _ _ => f k (by omega)), ipl_fr a2 (fun k _ _ => f k (by omega)), h1, isg_fr a4 (fun k _ _ => f k (by omega)), by rw [f 0 (by omega)]; exact a5, ish_fr a6 (fun k _ _ => f k (by omega))⟩, ic_fr b (fun k _ _ => f k (by omega)), iw_fr c (fun k _ _ => f k (by omega))⟩
/-- events have changed, and no morning is known -/
theorem ix_ev {D D1 D2 : am_D} {v v' : vs_T} (h : ix D v) (f : ∀ k, k < 7 ∨ 10 < k → D1 k = D k) (h1 : ie D1 v') (h0 : ∀ i, i ≠ 6 → v' 0 i = v 0 i) (e1 : v' 1 = v 1) (e5 : ∀ c, 5 ≤ c → v' c = v c) (f2 : fk D1 D2) (c2 : ic0 D2) : ix D2 v' := by
  obtain ⟨⟨a1, a2, a3, a4, a5, a6⟩, b, c⟩ := h
  have g : ∀ k, k < 7 ∨ (10 < k ∧ k < 27) ∨ 36 < k → D2 k = D k := fun k hk => (f2 k (by omega) (by omega) (by omega) (by omega) (by omega) (by omega)).trans (f k (by omega))
  refine ⟨⟨?_, ?_, ?_, ?_, ?_, ?_⟩, ic_0 c2, iw_fr c (fun k _ _ => g k (by omega))⟩
  · exact it_cg (fun i hi => h0 i (by omega)) e1 (it_fr a1 (fun k _ _ => g k (by omega)))
  · exact ipl_cg (fun i hi => h0 i (by omega)) e1 (ipl_fr a2 (fun k _ _ => g k (by omega)))
  · exact ie_fr h1 (fun k _ _ => f2 k (by omega) (by omega) (by omega) (by omega) (by omega) (by omega))
  · exact isg_cg (h0 7 (by omega)) (e5 5 (by omega)) (e5 6 (by omega)) (isg_fr a4 (fun k _ _ => g k (by omega)))
  · rw [g 0 (by omega), h0 8 (by omega)]; exact a5
  · exact ish_cg (e5 7 (by omega)) (e5 8 (by omega)) (e5 9 (by omega)) (e5 10 (by omega)) (ish_fr a6 (fun k _ _ => g k (by omega)))
/-- texts have changed, and were heard -/
theorem ix_hear {D D1 D2 : am_D} {v v' : vs_T} (h : ix D v) (f1 : ∀ k, k = 0 ∨ 6 < k → D1 k = D k) (h0 : ∀ i, 3 ≤ i → v' 0 i = v 0 i) (h2 : ∀ c, 2 ≤ c → v' c = v c) (it1 : it D1 v') (f2 : fh D1 D2) (c2 : ic0 D2) (e3 : D2 14 3 = nI (vlen v' 2)) (e15 : ∀ d, d < 12 → D2 15 d = nI (vmean v' 0 d) ∧ D2 16 d = nI (vmean v' 1 d)) (e17 : ∀ i, i < 24 → D2 17 i = nI (vmean v' 2 i)) : ix D2 v' ∧ fc D D2 := by
  obtain ⟨⟨a1, ⟨a2, a2'⟩, a3, a4, a5, a6⟩, b, c⟩ := h
  have g : ∀ k, k = 0 ∨ (6 < k ∧ k < 14) ∨ (17 < k ∧ k < 27) ∨ 36 < k → D2 k = D k := fun k hk => (f2.1 k (by omega) (by omega) (by omega) (by omega) (by omega) (by omega) (by omega)).trans (f1 k (by omega))
  have g14 : ∀ j, j ≠ 3 → D2 14 j = D 14 j := fun j hj => (f2.2 j hj).trans (by rw [f1 14 (by omega)])
  refine ⟨⟨⟨?_, ⟨⟨?_, ?_, ?_, ?_, e15, e17⟩, ?_⟩, ?_, ?_, ?_, ?_⟩, ic_0 c2, iw_fr c (fun k _ _ => g k (by omega))⟩, fun k hk => g k (by omega)⟩
  · exact it_fr it1 (fun k _ _ => f2.1 k (by omega) (by omega) (by omega) (by omega) (by omega) (by omega) (by omega))
  · exact e3
  · rw [g14 4 (by decide), a2.2.1]
    show nI (vn v 0 3) = nI (vn v' 0 3)
    rw [vn_cg (h0 3 (by omega))]
  · rw [g14 5 (by decide), a2.2.2.1]
    show nI (vn v 0 4) = nI (vn v' 0 4)
    rw [vn_cg (h0 4 (by omega))]
  · rw [g14 6 (by decide), a2.2.2.2.1]
    show nI (vn v 0 5) = nI (vn v' 0 5)
    rw [vn_cg (h0 5 (by omega))]
  · rw [g14 7 (by decide)]; exact a2'
  · exact ie_cg (h0 6 (by omega)) (h2 2 (by omega)) (h2 3 (by omega)) (h2 4 (by omega)) (ie_fr a3 (fun k _ _ => g k (by omega)))
  · exact isg_cg (h0 7 (by omega)) (h2 5 (by omega)) (h2 6 (by omega)) (isg_fr a4 (fun k _ _ => g k (by omega)))
  · rw [g 0 (by omega), h0 8 (by omega)]; exact a5
  · exact ish_cg (h2 7 (by omega)) (h2 8 (by omega)) (h2 9 (by omega)) (h2 10 (by omega)) (ish_fr a6 (fun k _ _ => g k (by omega)))
theorem it_len {D : am_D} {v : vs_T} {t : Nat} {z : Int32} (h : it D v) : it (am_up D (2 * t + 1) 4 z) (am_up v 0 t z) := fun q hq => by
  obtain ⟨h1, h2, h3, h4, h5⟩ := h q hq
  refine ⟨?_, ?_, ?_, ?_, fun i hi => ?_⟩
  · simp only [ap]; grind
  · simp only [ap]; grind
  · simp only [ap]; grind
  · simp only [ap]; grind
  · have := h5 i hi
    rw [am_up_ne (by omega), am_up_ne (by omega)]
    exact this
theorem it_byte {D : am_D} {v : vs_T} {t n : Nat} {y : Int32} (hn : n < 24) (h : it D v) : it (am_up D (2 * t + 2) n y) (am_up v 1 (24 * t + n) y) := fun q hq => by
  obtain ⟨h1, h2, h3, h4, h5⟩ := h q hq
  rw [am_up_ne (show 2 * q + 1 ≠ 2 * t + 2 by omega), am_up_ne (show 0 ≠ 1 by decide)]
  refine ⟨h1, h2, h3, h4, fun i hi => ?_⟩
  have := h5 i hi
  rw [ap, ap, if_pos rfl]
  by_cases e : 2 * q + 2 = 2 * t + 2
  · by_cases e2 : i = n
    · rw [if_pos e, if_pos e2, if_pos (by omega)]
    · rw [if_pos e, if_neg e2, if_neg (by omega)]
      exact this
  · rw [if_neg e, if_neg (by omega)]
    exact this
theorem nI_m4 : ∀ k, k < 100 → ¬ nI k = -4 := by decide +kernel
theorem nI_m3 : ∀ k, k < 100 → ¬ nI k = -3 := by decide +kernel
theorem cN_0 : cN 0 = 0 := by decide +kernel
theorem cN_1 : cN 1 = 1 := by decide +kernel
theorem cN_2 : cN 2 = 2 := by decide +kernel
theorem cN_3 : cN 3 = 3 := by decide +kernel
