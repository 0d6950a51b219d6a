/-! every call leaves a state whose numbers are where they may be -/
theorem vok_find {v : vs_T} {x : Int32} (h : vok v) : vok (gFind v x) := by
  obtain ⟨h1, h2, h3, h4, h5, h6, h7, h8⟩ := h
  unfold gFind
  refine ⟨fun i hi => ?_, fun i hi => ?_, ?_, ?_, ?_, ?_, ?_, fun s hs => ?_⟩
  all_goals (simp only [ap]; grind)
theorem vok_type {v : vs_T} {x y : Int32} (h : vok v) : vok (gType v x y) := by
  unfold gType
  split
  · rename_i hx
    split
    · rename_i hy
      split
      · exact h
      · rename_i hn
        obtain ⟨t, ht, et⟩ := rg_nI (n := 2) (by decide) hx
        obtain ⟨b, hb, eb⟩ := rg_nI (n := 255) (by decide) hy
        subst et eb
        rw [cN_nI (by omega)] at hn ⊢
        have := (vok_len h (show t < 3 by omega)).2
        exact vok_lenu (vok_byteu h hb) (by omega) (by omega)
    · exact h
  · exact h
theorem vok_wipe {v : vs_T} {x : Int32} (h : vok v) : vok (gWipe v x) := by
  unfold gWipe
  split
  · rename_i hx
    obtain ⟨t, ht, et⟩ := rg_nI (n := 2) (by decide) hx
    subst et
    rw [cN_nI (by omega), ← nI_0]
    exact vok_lenu h (by omega) (by omega)
  · exact h
theorem vok_undo {v : vs_T} {x : Int32} (h : vok v) : vok (gUndo v x) := by
  unfold gUndo
  split
  · rename_i hx
    obtain ⟨t, ht, et⟩ := rg_nI (n := 2) (by decide) hx
    subst et
    rw [cN_nI (by omega)]
    split
    · exact h
    · have := (vok_len h (show t < 3 by omega)).2
      exact vok_lenu h (by omega) (by omega)
  · exact h
theorem vok_s3 {v : vs_T} {n : Nat} (h : vok v) (hn : n ≤ 2) : vok (am_up v 0 3 (nI n)) := by
  obtain ⟨h1, h2, h3, h4, h5, h6, h7, h8⟩ := h
  refine ⟨fun i hi => ?_, fun i hi => ?_, ⟨n, hn, by simp [ap]⟩, ?_, ?_, ?_, ?_, fun s hs => ?_⟩
  all_goals (simp only [ap]; grind)
theorem vok_s4 {v : vs_T} {n : Nat} (h : vok v) (h0 : 1 ≤ n) (hn : n ≤ 8) : vok (am_up v 0 4 (nI n)) := by
  obtain ⟨h1, h2, h3, h4, h5, h6, h7, h8⟩ := h
  refine ⟨fun i hi => ?_, fun i hi => ?_, ?_, ⟨n, h0, hn, by simp [ap]⟩, ?_, ?_, ?_, fun s hs => ?_⟩
  all_goals (simp only [ap]; grind)
theorem vok_s5 {v : vs_T} {n : Nat} (h : vok v) (hn : n ≤ 60) : vok (am_up v 0 5 (nI n)) := by
  obtain ⟨h1, h2, h3, h4, h5, h6, h7, h8⟩ := h
  refine ⟨fun i hi => ?_, fun i hi => ?_, ?_, ?_, ⟨n, hn, by simp [ap]⟩, ?_, ?_, fun s hs => ?_⟩
  all_goals (simp only [ap]; grind)
theorem vok_set {v : vs_T} {x y : Int32} (h : vok v) : vok (gSet v x y) := by
  unfold gSet
  split
  · split
    · rename_i hy
      obtain ⟨n, hn, en⟩ := rg_nI (n := 2) (by decide) hy
      rw [en]
      exact vok_s3 h hn
    · exact h
  · split
    · split
      · rename_i hy
        obtain ⟨n, hn, en⟩ := rg_nI (n := 8) (by decide) (show 0 ≤ y ∧ y ≤ 8 from ⟨Int32.le_trans (by decide) hy.1, hy.2⟩)
        have h0 : 1 ≤ n := by
          have q := hy.1
          rw [en, show (1 : Int32) = nI 1 by decide +kernel, nI_leI (by decide) (by omega)] at q
          exact q
        rw [en]
        exact vok_s4 h h0 hn
      · exact h
    · split
      · split
        · rename_i hy
          obtain ⟨n, hn, en⟩ := rg_nI (n := 60) (by decide) hy
          rw [en]
          exact vok_s5 h hn
        · exact h
      · exact h
theorem vok_back {v : vs_T} (h : vok v) : vok (gBack v) := by
  unfold gBack
  split
  · exact h
  · rename_i hz
    obtain ⟨h1, h2, h3, h4, h5, ⟨n, q1, q2, q3⟩, h7, h8⟩ := h
    have en : vn v 0 6 = n := vn_nI q2 (by omega)
    rw [en] at hz ⊢
    refine ⟨fun i hi => ?_, fun i hi => ?_, ?_, ?_, ?_, ⟨n - 1, by omega, by simp [ap], fun i hi => ?_⟩, ?_, fun s hs => ?_⟩
    · simp only [ap]; grind
    · simp only [ap]; grind
    · simp only [ap]; grind
    · simp only [ap]; grind
    · simp only [ap]; grind
    · have := q3 i (by omega)
      simpa [ap] using this
    · simp only [ap]; grind
    · simp only [ap]; grind
theorem vok_forget {v : vs_T} (h : vok v) : vok (gForget v) := by
  obtain ⟨h1, h2, h3, h4, h5, h6, h7, h8⟩ := h
  unfold gForget
  refine ⟨fun i hi => ?_, fun i hi => ?_, ?_, ?_, ?_, ?_, ⟨0, by omega, by simp [ap, nI_0], fun i hi => absurd hi (by omega)⟩, fun s hs => ?_⟩
  all_goals (simp only [ap]; grind)
theorem vok_seen {v : vs_T} {x y : Int32} (h : vok v) : vok (gSeen v x y) := by
  unfold gSeen
  split
  · rename_i hx
    split
    · rename_i hy
      split
      · exact h
      · rename_i hn
        obtain ⟨e0, e1⟩ := vok_se h
        obtain ⟨a, ha, ea⟩ := rg_nI (n := 47) (by decide) hx
        obtain ⟨b, hb, eb⟩ := rg_nI (n := 11) (by decide) hy
        subst ea eb
        obtain ⟨h1, h2, h3, h4, h5, h6, ⟨n, q1, q2, q3⟩, h8⟩ := h
        have en : vn v 0 7 = n := vn_nI q2 (by omega)
        rw [en] at hn e1 ⊢
        refine ⟨fun i hi => ?_, fun i hi => ?_, ?_, ?_, ?_, ?_, ⟨n + 1, by omega, by simp [ap], fun i hi => ?_⟩, fun s hs => ?_⟩
        · have := h1 i hi
          simp only [ap]
          rw [if_pos trivial, if_neg (by omega)]
          simpa using this
        · have := h2 i hi
          simpa [ap] using this
        · simpa [ap] using h3
        · simpa [ap] using h4
        · simpa [ap] using h5
        · simpa [ap] using h6
        · by_cases e : i = n
          · subst e
            simp only [ap]
            refine ⟨⟨a, ha, by simp⟩, ⟨b, hb, by simp⟩⟩
          · have := q3 i (by omega)
            simp only [ap]
            simpa [e] using this
        · have := h8 s hs
          simpa [ap] using this
    · exact h
  · exact h
theorem vok_sheets {v v' : vs_T} (h : vok v) (hc : ∀ c, c < 7 → v' c = v c) (h8 : ∀ s, s < 4 → (v' 7 s = 0 ∨ v' 7 s = 1) ∧ (∃ a, a ≤ 2 ∧ v' 8 s = nI a) ∧ ∃ a, a ≤ 60 ∧ v' 9 s = nI a) : vok v' := by
  obtain ⟨h1, h2, h3, h4, h5, h6, h7, _⟩ := h
  rw [← hc 0 (by decide)] at h1 h3 h4 h5 h6 h7
  rw [← hc 1 (by decide)] at h2
  rw [← hc 2 (by decide), ← hc 3 (by decide), ← hc 4 (by decide)] at h6
  rw [← hc 5 (by decide), ← hc 6 (by decide)] at h7
  exact ⟨h1, h2, h3, h4, h5, h6, h7, h8⟩
theorem vok_lose {v : vs_T} {x : Int32} (h : vok v) : vok (gLose v x) := by
  unfold gLose
  split
  · split
    · exact vok_find h
    · refine vok_sheets h (fun c hc => am_up_ne (by omega)) (fun s hs => ?_)
      have := h.2.2.2.2.2.2.2 s hs
      rw [am_up_ne (show 8 ≠ 7 by decide), am_up_ne (show 9 ≠ 7 by decide)]
      refine ⟨?_, this.2⟩
      rw [ap, if_pos rfl]
      split
      · exact Or.inl rfl
      · exact this.1
  · exact h
theorem vok_sheet {v : vs_T} {x y z : Int32} (h : vok v) : vok (gSheet v x y z) := by
  unfold gSheet
  split
  · rename_i hx
    split
    · rename_i hy
      split
      · rename_i hz
        split
        · exact vok_find h
        · rename_i h0
          obtain ⟨a, ha, ea⟩ := rg_nI (n := 2) (by decide) hy
          obtain ⟨b, hb, eb⟩ := rg_nI (n := 60) (by decide) (show 0 ≤ z ∧ z ≤ 60 from ⟨Int32.not_lt.mp h0, hz⟩)
          refine vok_sheets h (fun c hc => ?_) (fun s hs => ?_)
          · unfold gBegin
            rw [if_neg (by omega), am_up_ne (by omega), am_up_ne (by omega), am_up_ne (by omega)]
          · have := h.2.2.2.2.2.2.2 s hs
            unfold gBegin
            rw [if_neg (by decide), if_neg (by decide), if_neg (by decide)]
            refine ⟨?_, ?_, ?_⟩
            · rw [am_up_ne (by decide), am_up_ne (by decide), ap, if_pos rfl]
              split
              · exact Or.inr rfl
              · exact this.1
            · rw [am_up_ne (by decide), ap, if_pos rfl, am_up_ne (by decide)]
              split
              · exact ⟨a, ha, ea⟩
              · exact this.2.1
            · rw [ap, if_pos rfl, am_up_ne (by decide), am_up_ne (by decide)]
              split
              · exact ⟨b, hb, eb⟩
              · exact this.2.2
      · exact h
    · exact h
  · exact h
theorem vok_put {v : vs_T} {x y z u : Int32} (h : vok v) : vok (gPut v x y z u) := by
  unfold gPut
  split
  · split
    · split
      · exact vok_10 (fun c hc => am_up_ne hc) h
      · exact vok_find h
    · exact h
  · exact h
theorem vok_get {v : vs_T} {x y z : Int32} (h : vok v) : vok (gGet v x y z) := by
  unfold gGet
  split
  · split
    · split
      · exact h
      · exact vok_find h
    · exact h
  · exact h
theorem vok_copy {v : vs_T} {x y z u r : Int32} (h : vok v) : vok (gCopy v x y z u r) := by
  unfold gCopy
  split
  · split
    · split
      · exact vok_find h
      · split
        · exact vok_find h
        · split
          · split
            · exact vok_10 (fun c hc => gCp_c hc) h
            · exact vok_find h
          · exact vok_find h
    · exact h
  · exact h
theorem vok_write {v : vs_T} {x y : Int32} (h : vok v) : vok (gWrite v x y) := by
  unfold gWrite
  split
  · split
    · split
      · exact vok_find h
      · exact vok_10 (fun c hc => gWr_c hc) h
    · exact h
  · exact h
theorem vok_rdG {s : Nat} : ∀ (m n : Nat) (v : vs_T), vok v → vok (rdG s m n v).1
  | 0, _, _, h => h
  | m + 1, n, v, h => by
    rw [rdG]
    split
    · exact vok_rdG m (n + 1) _ (vok_event h)
    · exact h
theorem vok_read {v : vs_T} {x : Int32} (h : vok v) : vok (gRead v x) := by
  unfold gRead
  split
  · split
    · exact vok_find h
    · exact vok_rdG 20 0 v h
  · exact h
/-! the start -/
def v0 : vs_T := fun c i => if c = 0 then (if i = 3 then 1 else if i = 4 then 4 else if i = 5 then 40 else 0) else 0
def rowI (l : List Int32) : Nat → Int32 := fun j => l.getD j 0
def D0 : am_D := fun k => match k with
  | 1 => rowI [0, 12, 48, 53, 0]
  | 3 => rowI [0, 12, 48, 53, 0]
  | 5 => rowI [0, 24, 97, 108, 0]
  | 14 => rowI [0, 0, 0, 0, 1, 4, 40, 0]
  | 18 => rowI [0, 0, 0, 0, 1, 4, 40, 0]
  | 27 => rowI [0, 0, 0, 0, -1, 0, 0]
  | 32 => rowI [-1, -1, -1, -1, 0]
  | 33 => rowI [-1, -1, -1, -1, 0]
  | 34 => rowI [-1, -1, -1, -1, 0]
  | 35 => rowI [-1, -1, -1, 0]
  | 41 => rowI [0, 0, 0, 1]
  | 43 => rowI [0, 0, 0, 1]
  | 45 => rowI [0, 0, 0, 1]
  | 47 => rowI [0, 0, 0, 1]
  | 55 => upd (upd (upd (fun _ => 0) 0 1) 1 4) 2 40
  | _ => fun _ => 0
def L0 : am_L := fun _ => 0
theorem vok_0 : vok v0 := by
  refine ⟨fun t _ => ⟨0, Nat.zero_le _, ?_⟩, fun i _ => ⟨0, by omega, ?_⟩, ⟨1, by omega, by decide +kernel⟩, ⟨4, by omega, by omega, by decide +kernel⟩, ⟨40, by omega, by decide +kernel⟩, ⟨0, by omega, by decide +kernel, fun i hi => absurd hi (by omega)⟩, ⟨0, by omega, by decide +kernel, fun i hi => absurd hi (by omega)⟩, fun s _ => ⟨Or.inl rfl, ⟨0, by omega, by rw [nI_0]; rfl⟩, ⟨0, by omega, by rw [nI_0]; rfl⟩⟩⟩
  · rename_i ht
    rw [nI_0]
    rcases (show t = 0 ∨ t = 1 ∨ t = 2 by omega) with rfl | rfl | rfl <;> rfl
  · rw [nI_0]; rfl
theorem vn_00 {i : Nat} (h : i < 3) : vn v0 0 i = 0 := by
  rcases (show i = 0 ∨ i = 1 ∨ i = 2 by omega) with rfl | rfl | rfl <;> decide +kernel
theorem vlen_0 {t : Nat} (h : t < 3) : vlen v0 t = 0 := by
  unfold vlen
  split
  · exact vn_00 h
  · rfl
theorem vmean_0 {t i : Nat} (h : t < 3) : vmean v0 t i = 0 := by
  unfold vmean
  rw [vlen_0 h, if_neg (by omega)]
theorem ix_0 : ix D0 v0 := by
  refine ⟨⟨fun t ht => ?_, ⟨⟨?_, by decide +kernel, by decide +kernel, by decide +kernel, fun d _ => ⟨?_, ?_⟩, fun i _ => ?_⟩, rfl⟩, ⟨rfl, fun i _ => ⟨rfl, rfl, rfl⟩⟩, ⟨rfl, fun i _ => ⟨rfl, rfl⟩⟩, rfl, fun s hs => ?_⟩, ic_0 ⟨rfl, rfl, rfl, rfl, rfl, rfl⟩, ⟨fun _ _ => 0, 0, fun d _ => ⟨?_, ?_, ?_⟩, ?_⟩⟩
  · rcases (show t = 0 ∨ t = 1 ∨ t = 2 by omega) with rfl | rfl | rfl
    all_goals exact ⟨by decide +kernel, by decide +kernel, by decide +kernel, rfl, fun i _ => rfl⟩
  · show (0 : Int32) = nI (vlen v0 2)
    rw [vlen_0 (by decide), nI_0]
  · show (0 : Int32) = nI (vmean v0 0 d)
    rw [vmean_0 (by decide), nI_0]
  · show (0 : Int32) = nI (vmean v0 1 d)
    rw [vmean_0 (by decide), nI_0]
  · show (0 : Int32) = nI (vmean v0 2 i)
    rw [vmean_0 (by decide), nI_0]
  · rcases (show s = 0 ∨ s = 1 ∨ s = 2 ∨ s = 3 by omega) with rfl | rfl | rfl | rfl
    all_goals exact ⟨rfl, rfl, by decide +kernel, fun i _ => rfl⟩
  · exact nI_0.symm
  · exact nI_0.symm
  · exact nI_0.symm
  · refine ⟨?_, ?_, ?_, ?_, ?_, ?_, ?_, rfl, ?_, ?_, ?_, ?_⟩ <;> exact nI_0.symm
theorem im_0 : im D0 v0 := by
  refine ⟨fun t ht => ?_, fun i _ => rfl, fun i hi => ?_, rfl, fun i _ => ⟨rfl, rfl, rfl⟩, rfl, fun i _ => ⟨rfl, rfl⟩, rfl, fun s _ => ⟨rfl, rfl, rfl⟩, fun i _ => rfl⟩
  · rcases (show t = 0 ∨ t = 1 ∨ t = 2 by omega) with rfl | rfl | rfl <;> rfl
  · rcases (show i = 0 ∨ i = 1 ∨ i = 2 by omega) with rfl | rfl | rfl <;> rfl
