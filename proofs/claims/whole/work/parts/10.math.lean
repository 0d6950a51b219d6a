/-! a morning, in numbers -/
abbrev mw_T : Type := Nat → Nat → Nat
def up2 (w : mw_T) (c j x : Nat) : mw_T := fun q => if q = c then (fun i => if i = j then x else w c i) else w q
def mw_dog (g : Int32) (d : Nat) : Bool := !decide ((g >>> (nI d &&& 31)) &&& 1 = 0)
def mw_tw (c m k : Nat) : Nat := if c ≤ m then (if c + k ≤ m then c + k else m) else (if m + k ≤ c then c - k else m)
def mw_ev (E : mw_T) (pr : Nat → Bool) (t i : Nat) (s : mw_T × Int32) : mw_T × Int32 :=
  if E 2 i = t ∧ pr i = true then
    if E 1 i = 0 then (s.1, s.2 ||| ((1 : Int32) <<< (nI (E 3 i) &&& 31)))
    else if E 1 i = 1 then (up2 s.1 0 1 (mw_tw (s.1 0 1) (s.1 0 0) 3), s.2)
    else if 0 < s.1 2 (E 3 i) then (up2 (up2 s.1 2 (E 3 i) (s.1 2 (E 3 i) - 1)) 0 10 (s.1 0 10 + 1), s.2) else s
  else s
def mw_bef (E : mw_T) (pr : Nat → Bool) (t : Nat) (w : mw_T) : Nat → mw_T × Int32
  | 0 => (w, 0)
  | k + 1 => mw_ev E pr t k (mw_bef E pr t w k)
def mw_nx (w : mw_T) (to : Nat) : Nat := if w 0 0 < to then w 0 0 + 1 else w 0 0 - 1
def mw_go (g : Int32) (w : mw_T) (to : Nat) : mw_T :=
  if mw_dog g (mw_nx w to) = true then up2 w 0 7 4
  else up2 (up2 (up2 w 0 0 (mw_nx w to)) 0 8 (w 0 8 + 1)) 0 7 1
def mw_fill (room : Nat) (w : mw_T) : mw_T :=
  up2 (up2 (up2 (up2 (up2 (up2 (up2 w 0 11 (w 0 11 + w 0 4)) 0 4 0) 0 6 (if w 0 2 = 0 then 1 else 0)) 0 3 (min room (w 0 2))) 0 2 (w 0 2 - min room (w 0 2))) 0 9 (w 0 9 + 1)) 0 7 2
def mw_lay (P w : mw_T) (d : Nat) : Nat := min (P 1 d - w 1 d) (w 0 3)
def mw_lift (P w : mw_T) (d : Nat) : Nat := min (w 3 d) (P 0 2 - (w 0 3 - mw_lay P w d) - w 0 4)
def mw_serve (P : mw_T) (g : Int32) (w : mw_T) (d : Nat) : mw_T :=
  if mw_dog g d = true then up2 w 0 7 4
  else up2 (up2 (up2 (up2 (up2 (up2 (up2 w 1 d (w 1 d + mw_lay P w d)) 2 d (w 2 d + mw_lay P w d)) 0 3 (w 0 3 - mw_lay P w d)) 3 d (w 3 d - mw_lift P w d)) 0 4 (w 0 4 + mw_lift P w d)) 0 5 (if P 1 d ≤ w 1 d + mw_lay P w d then w 0 5 + 1 else w 0 5)) 0 7 3
def mw_act (P : mw_T) (g : Int32) (w : mw_T) : mw_T :=
  if w 0 6 = 1 ∨ P 0 0 ≤ w 0 5 then up2 w 0 7 0
  else if w 0 3 = 0 ∧ w 1 (P 3 (w 0 5)) < P 1 (P 3 (w 0 5)) then (if w 0 0 = w 0 1 then mw_fill (P 0 2) w else mw_go g w (w 0 1))
  else (if w 0 0 = P 3 (w 0 5) then mw_serve P g w (P 3 (w 0 5)) else mw_go g w (P 3 (w 0 5)))
def mw_drive (P : mw_T) (t : Nat) (w : mw_T) : mw_T :=
  if (P 0 1 = 1 ∧ (w 0 0 + 2 ≤ w 0 1 ∨ w 0 1 + 2 ≤ w 0 0)) ∨ (P 0 1 = 2 ∧ t % 2 = 0) then up2 w 0 1 (mw_tw (w 0 1) (w 0 0) 1) else w
def mw_min (P E : mw_T) (pr : Nat → Bool) (t : Nat) (w : mw_T) : mw_T := mw_drive P t (mw_act P (mw_bef E pr t w (E 0 0)).2 (mw_bef E pr t w (E 0 0)).1)
def mw_w0 (P : mw_T) : mw_T := fun c => if c = 3 then P 2 else if c = 0 then (fun i => if i = 2 then P 0 3 else 0) else fun _ => 0
def mw_run (P E : mw_T) (pr : Nat → Bool) : Nat → mw_T
  | 0 => mw_w0 P
  | t + 1 => mw_min P E pr t (mw_run P E pr t)
def mw_pok (P : mw_T) : Prop := P 0 0 ≤ 24 ∧ P 0 1 ≤ 2 ∧ 1 ≤ P 0 2 ∧ P 0 2 ≤ 8 ∧ P 0 3 ≤ 60 ∧ (∀ d, d < 12 → P 1 d ≤ 5 ∧ P 2 d ≤ 5) ∧ ∀ i, i < P 0 0 → P 3 i ≤ 11
def mw_eok (E : mw_T) : Prop := E 0 0 ≤ 8 ∧ ∀ i, i < E 0 0 → E 1 i ≤ 2 ∧ E 2 i ≤ 47 ∧ E 3 i ≤ 11
def mw_ok (P : mw_T) (t : Nat) (w : mw_T) : Prop := w 0 0 ≤ 11 ∧ w 0 1 ≤ 11 ∧ w 0 2 ≤ 60 ∧ w 0 3 + w 0 4 ≤ P 0 2 ∧ w 0 5 ≤ t ∧ w 0 6 ≤ 1 ∧ w 0 7 ≤ 4 ∧ w 0 8 ≤ t ∧ ∀ d, d < 12 → w 1 d ≤ P 1 d ∧ w 2 d ≤ w 1 d ∧ w 3 d ≤ 5
theorem up2_s {w : mw_T} {c j x : Nat} : up2 w c j x c j = x := by simp [up2]
theorem up2_j {w : mw_T} {c j x i : Nat} (h : i ≠ j) : up2 w c j x c i = w c i := by simp [up2, h]
theorem up2_c {w : mw_T} {c j x q : Nat} (h : q ≠ c) : up2 w c j x q = w q := by simp [up2, h]
theorem mw_tw_le {c m k : Nat} (hc : c ≤ 11) (hm : m ≤ 11) : mw_tw c m k ≤ 11 := by
  unfold mw_tw; split <;> split <;> omega
theorem mw_ev_ok {P E : mw_T} {pr : Nat → Bool} {t n i : Nat} {s : mw_T × Int32} (hi : i < E 0 0) (hE : mw_eok E) (h : mw_ok P n s.1) : mw_ok P n (mw_ev E pr t i s).1 := by
  obtain ⟨h1, h2, h3, h4, h5, h6, h7, h8, h9⟩ := h
  have he := hE.2 i hi
  unfold mw_ev
  split
  · split
    · exact ⟨h1, h2, h3, h4, h5, h6, h7, h8, h9⟩
    · split
      · refine ⟨?_, ?_, ?_, ?_, ?_, ?_, ?_, ?_, ?_⟩ <;> try (simp [up2]; assumption)
        · simpa [up2] using mw_tw_le h2 h1
      · split
        · refine ⟨?_, ?_, ?_, ?_, ?_, ?_, ?_, ?_, fun d hd => ?_⟩ <;> try (simp [up2]; assumption)
          have := h9 d hd
          by_cases q : d = E 3 i
          · subst q; simp [up2]; omega
          · simp [up2, q]; omega
        · exact ⟨h1, h2, h3, h4, h5, h6, h7, h8, h9⟩
  · exact ⟨h1, h2, h3, h4, h5, h6, h7, h8, h9⟩
theorem mw_bef_ok {P E : mw_T} {pr : Nat → Bool} {t n : Nat} {w : mw_T} (hE : mw_eok E) (h : mw_ok P n w) : ∀ k, k ≤ E 0 0 → mw_ok P n (mw_bef E pr t w k).1
  | 0, _ => h
  | k + 1, hk => mw_ev_ok (by omega) hE (mw_bef_ok hE h k (by omega))
theorem mw_go_ok {P : mw_T} {g : Int32} {t to : Nat} {w : mw_T} (hto : to ≤ 11) (hne : w 0 0 ≠ to) (h : mw_ok P t w) : mw_ok P (t + 1) (mw_go g w to) := by
  obtain ⟨h1, h2, h3, h4, h5, h6, h7, h8, h9⟩ := h
  have hn : mw_nx w to ≤ 11 := by unfold mw_nx; split <;> omega
  unfold mw_go
  split
  · refine ⟨?_, ?_, ?_, ?_, ?_, ?_, ?_, ?_, fun d hd => ?_⟩ <;> simp [up2] <;> first | omega | exact h9 d hd
  · refine ⟨?_, ?_, ?_, ?_, ?_, ?_, ?_, ?_, fun d hd => ?_⟩ <;> simp [up2] <;> first | omega | exact h9 d hd
theorem mw_act_ok {P : mw_T} {g : Int32} {t : Nat} {w : mw_T} (hP : mw_pok P) (h : mw_ok P t w) : mw_ok P (t + 1) (mw_act P g w) := by
  have h' := h
  obtain ⟨h1, h2, h3, h4, h5, h6, h7, h8, h9⟩ := h
  obtain ⟨p1, p2, p3, p4, p5, p6, p7⟩ := hP
  unfold mw_act
  split
  · refine ⟨?_, ?_, ?_, ?_, ?_, ?_, ?_, ?_, fun d hd => ?_⟩ <;> simp [up2] <;> first | omega | exact h9 d hd
  · rename_i c1
    have hd0 : P 3 (w 0 5) ≤ 11 := p7 _ (by omega)
    split
    · split
      · unfold mw_fill
        refine ⟨?_, ?_, ?_, ?_, ?_, ?_, ?_, ?_, fun d hd => ?_⟩ <;> simp [up2] <;> first | omega | (split <;> omega) | exact h9 d hd
      · exact mw_go_ok h2 (by assumption) h'
    · split
      · unfold mw_serve
        split
        · refine ⟨?_, ?_, ?_, ?_, ?_, ?_, ?_, ?_, fun d hd => ?_⟩ <;> simp [up2] <;> first | omega | exact h9 d hd
        · have hl : mw_lay P w (P 3 (w 0 5)) ≤ w 0 3 := Nat.min_le_right _ _
          have hl2 : mw_lay P w (P 3 (w 0 5)) ≤ P 1 (P 3 (w 0 5)) - w 1 (P 3 (w 0 5)) := Nat.min_le_left _ _
          have hf : mw_lift P w (P 3 (w 0 5)) ≤ P 0 2 - (w 0 3 - mw_lay P w (P 3 (w 0 5))) - w 0 4 := Nat.min_le_right _ _
          refine ⟨?_, ?_, ?_, ?_, ?_, ?_, ?_, ?_, fun d hd => ?_⟩ <;> simp [up2] <;> try first | omega | (split <;> omega)
          have := h9 d hd
          by_cases q : d = P 3 (w 0 5)
          · subst q; simp; omega
          · simp [q]; omega
      · exact mw_go_ok hd0 (by assumption) h'
theorem mw_drive_ok {P : mw_T} {t n : Nat} {w : mw_T} (h : mw_ok P n w) : mw_ok P n (mw_drive P t w) := by
  obtain ⟨h1, h2, h3, h4, h5, h6, h7, h8, h9⟩ := h
  unfold mw_drive
  split
  · refine ⟨?_, ?_, ?_, ?_, ?_, ?_, ?_, ?_, fun d hd => ?_⟩ <;> simp [up2] <;> first | omega | exact mw_tw_le h2 h1 | exact h9 d hd
  · exact ⟨h1, h2, h3, h4, h5, h6, h7, h8, h9⟩
theorem mw_min_ok {P E : mw_T} {pr : Nat → Bool} {t n : Nat} {w : mw_T} (hP : mw_pok P) (hE : mw_eok E) (h : mw_ok P n w) : mw_ok P (n + 1) (mw_min P E pr t w) := mw_drive_ok (mw_act_ok hP (mw_bef_ok hE h _ (Nat.le_refl _)))
theorem mw_w0_ok {P : mw_T} (hP : mw_pok P) : mw_ok P 0 (mw_w0 P) := by
  obtain ⟨p1, p2, p3, p4, p5, p6, p7⟩ := hP
  refine ⟨?_, ?_, ?_, ?_, ?_, ?_, ?_, ?_, fun d hd => ?_⟩ <;> simp [mw_w0] <;> first | omega | exact (p6 d hd).2
theorem mw_run_ok {P E : mw_T} {pr : Nat → Bool} (hP : mw_pok P) (hE : mw_eok E) : ∀ t, mw_ok P t (mw_run P E pr t)
  | 0 => mw_w0_ok hP
  | t + 1 => mw_min_ok hP hE (mw_run_ok hP hE t)
