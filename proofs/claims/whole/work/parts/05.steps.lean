/-! every step of the abstract machine is one of the machine -/
theorem am_102 {k : Nat} (h : am_tag k = 102) : k = 38 := by
  have hk : k < 79 := am_tag_lt (by omega)
  have key : ∀ k, k < 79 → am_tag k = 102 → k = 38 := by decide +kernel
  exact key k hk h
theorem am_e_L {ad : Nat → Nat} {cA : Nat → ClassId} {f : Nat → Int32} {L L' : am_L} {k : Nat} (h : am_tag k ≠ 102) : am_e ad cA f L k = am_e ad cA f L' k := by
  simp [am_e, h]
section SO
variable {p : Program} {l : Launch} {e : Env} {R : Room} {s : State} {m : MethodId} {args : Array Value} {below : List Frame} {meth : Method} {c : Code} {cells slots : Nat} {Q : State → Prop} {nL : Nat} {ad : Nat → Nat} {dC : Nat → ClassId} {dI : Nat → Nat → Nat} {cA : Nat → ClassId} {n : Nat} {xs : Nat → Int32}
variable {lw : Bool} {F : Nat → am_Sp} {K : am_K} {pc : Nat} {ins : Instr} {nx a b d : Nat} {v : Int32} {w : Int64} {ls : am_V} {st : List Value} {D : am_D} {L : am_L}
variable {own : String} {cc : ByteArray} {ret : Option FieldType} {fl : List (Nat × Nat × Nat × Bool × Bool)} {ki : List (Nat × Int32)} {kl : List (Nat × Int64)} {cs : List (Instr × Nat × Nat)}
/-- what a call must be -/
def am_HC (p : Program) (l : Launch) (e : Env) (R : Room) (s : State) (m : MethodId) (args : Array Value) (below : List Frame) (meth : Method) (c : Code) (cells slots : Nat) (Q : State → Prop) (cc : ByteArray) (nL : Nat) (ad : Nat → Nat) (dC : Nat → ClassId) (dI : Nat → Nat → Nat) (cA : Nat → ClassId) (n : Nat) (xs : Nat → Int32) (ins : Instr) (b d : Nat) (S : am_Sp) : Prop :=
  ∀ (as : List Value) (D : am_D) (L : am_L) (K' : am_K) (H : Heap) (locs : List Loc) (pc : Nat) (rls : Array Slot) (rest : List Value), S as D L K' → as.length = b → am_w8 rest ≤ 8 → ((∃ i, ins = .invokevirtual i) → ∃ k as', as = .ref k :: as' ∧ am_tag k = d) → am_R ad dC dI cA n xs D L H → va_S (am_A ad) s.heap H locs → rls.size = nL → decode cc pc = .ok (ins, 3) →
    (∀ (r : Option Value) (D' : am_D) (L' : am_L) (H' : Heap) (locs' : List Loc), K' r D' L' → am_R ad dC dI cA n xs D' L' H' → va_S (am_A ad) s.heap H' locs' → W p l e R s m args below meth c H' locs' cells slots Q (F0 m (pc + 3) rls ((r.map (am_c ad)).toList ++ rest.map (am_c ad)))) →
    W p l e R s m args below meth c H locs cells slots Q (F0 m pc rls ((as.map (am_c ad)).reverse ++ rest.map (am_c ad)))
/-- what an end must be -/
def am_HR (p : Program) (l : Launch) (e : Env) (R : Room) (s : State) (m : MethodId) (args : Array Value) (below : List Frame) (meth : Method) (c : Code) (cells slots : Nat) (Q : State → Prop) (cc : ByteArray) (ad : Nat → Nat) (dC : Nat → ClassId) (dI : Nat → Nat → Nat) (cA : Nat → ClassId) (n : Nat) (xs : Nat → Int32) (ret : Option FieldType) (K : am_K) : Prop :=
  ∀ (r : Option Value) (D : am_D) (L : am_L) (H : Heap) (locs : List Loc) (pc : Nat) (rls : Array Slot), K r D L → am_R ad dC dI cA n xs D L H → va_S (am_A ad) s.heap H locs →
    ((decode cc pc = .ok (.ireturn, 1) ∧ ∃ x, r = some (.int x) ∧ (ret = some .int ∨ (ret = some .boolean ∧ (x = 0 ∨ x = 1)))) ∨ (decode cc pc = .ok (.lreturn, 1) ∧ ret = some .long ∧ ∃ x, r = some (.long x)) ∨ (decode cc pc = .ok (.areturn, 1) ∧ (∃ o, ret = some (.object o)) ∧ (r = some .null ∨ ∃ k, r = some (.ref k))) ∨ (decode cc pc = .ok (.return_, 1) ∧ ret = none ∧ r = none)) →
    W p l e R s m args below meth c H locs cells slots Q (F0 m pc rls ((r.map (am_c ad)).toList))
theorem am_okE (hC : ∀ (a : Nat) (ins : Instr) (b d : Nat), cs[a]? = some (ins, b, d) → am_HC p l e R s m args below meth c cells slots Q cc nL ad dC dI cA n xs ins b d (F a)) (hRt : am_HR p l e R s m args below meth c cells slots Q cc ad dC dI cA n xs ret K)
    (hdec : decode cc pc = .ok (ins, nx - pc)) (hco : am_co ret nL fl ki kl cs pc ins nx a b d v w = true) (h : am_sE F K ins nx a b d ls st D L (am_Sd p l e R s m args below meth c cells slots Q nL ad dC dI cA n xs)) : am_Sd p l e R s m args below meth c cells slots Q nL ad dC dI cA n xs pc ls st D L := by
  intro rls H locs hl hR hS
  unfold am_sE at h
  split at h
  · simp only [am_co, Bool.and_eq_true, decide_eq_true_eq] at hco
    obtain ⟨rfl, hcs, hd⟩ := hco
    rw [Nat.add_sub_cancel_left] at hdec
    obtain ⟨as, r, h1, h2, h3, -⟩ := am_pop_ex _ _ _ _ h
    rw [List.append_nil] at h1
    split at h1
    · rename_i k as'
      split at h1
      · rename_i e1
        split at h1
        · rename_i e2
          subst h2
          rw [List.map_append, List.map_reverse]
          refine hC a _ _ _ hcs _ D L _ H locs pc rls r h1 h3 (Nat.le_of_ble_eq_true e2) (fun _ => ⟨k, as', rfl, Nat.eq_of_beq_eq_true e1⟩) hR hS hl.1 hdec (fun q D' L' H' locs' hq hR' hS' => ?_)
          cases q with
          | none => exact hq rls H' locs' hl hR' hS'
          | some z => exact hq rls H' locs' hl hR' hS'
        · exact absurd h1 id
      · exact absurd h1 id
    · exact absurd h1 id
  · simp only [am_co, Bool.and_eq_true, decide_eq_true_eq] at hco
    obtain ⟨rfl, hcs⟩ := hco
    rw [Nat.add_sub_cancel_left] at hdec
    obtain ⟨as, r, h1, h2, h3, -⟩ := am_pop_ex _ _ _ _ h
    rw [List.append_nil] at h1
    split at h1
    · rename_i e2
      subst h2
      rw [List.map_append, List.map_reverse]
      refine hC a _ _ _ hcs _ D L _ H locs pc rls r h1 h3 (Nat.le_of_ble_eq_true e2) (fun q => by obtain ⟨i, hi⟩ := q; cases hi) hR hS hl.1 hdec (fun q D' L' H' locs' hq hR' hS' => ?_)
      cases q with
      | none => exact hq rls H' locs' hl hR' hS'
      | some z => exact hq rls H' locs' hl hR' hS'
    · exact absurd h1 id
  · simp only [am_co, Bool.and_eq_true, Bool.or_eq_true, decide_eq_true_eq] at hco
    obtain ⟨rfl, hco⟩ := hco
    rw [Nat.add_sub_cancel_left] at hdec
    split at h
    · rename_i x
      rcases hco with ⟨rfl, h2⟩ | ⟨rfl, h2⟩
      · exact hRt (some (.int x)) D L H locs pc rls h hR hS (Or.inl ⟨hdec, x, rfl, Or.inl h2⟩)
      · exact hRt (some (.int x)) D L H locs pc rls h.2 hR hS (Or.inl ⟨hdec, x, rfl, Or.inr ⟨h2, h.1⟩⟩)
    · exact absurd h id
  · simp only [am_co, Bool.and_eq_true, decide_eq_true_eq] at hco
    obtain ⟨rfl, hco⟩ := hco
    rw [Nat.add_sub_cancel_left] at hdec
    split at h
    · rename_i x
      exact hRt (some (.long x)) D L H locs pc rls h hR hS (Or.inr (Or.inl ⟨hdec, hco, x, rfl⟩))
    · exact absurd h id
  · simp only [am_co, Bool.and_eq_true, decide_eq_true_eq] at hco
    obtain ⟨rfl, hco⟩ := hco
    rw [Nat.add_sub_cancel_left] at hdec
    split at hco
    · rename_i o
      split at h
      · rename_i x
        exact hRt (some (.ref x)) D L H locs pc rls h hR hS (Or.inr (Or.inr (Or.inl ⟨hdec, ⟨o, rfl⟩, Or.inr ⟨x, rfl⟩⟩)))
      · exact hRt (some .null) D L H locs pc rls h hR hS (Or.inr (Or.inr (Or.inl ⟨hdec, ⟨o, rfl⟩, Or.inl rfl⟩)))
      · exact absurd h id
    · cases hco
  · simp only [am_co, Bool.and_eq_true, decide_eq_true_eq] at hco
    obtain ⟨rfl, hco⟩ := hco
    rw [Nat.add_sub_cancel_left] at hdec
    split at h
    · exact hRt none D L H locs pc rls h hR hS (Or.inr (Or.inr (Or.inr ⟨hdec, hco, rfl⟩)))
    · exact absurd h id
  · exact absurd h id
theorem am_any {fl : List (Nat × Nat × Nat × Bool × Bool)} {f : Nat × Nat × Nat × Bool × Bool → Bool} (h : fl.any f = true) : ∃ q ∈ fl, f q = true := List.any_eq_true.mp h
theorem am_nz {x : Int32} (h : x = 0 ∨ x = 1) : narrow .boolean (.int x) = .int x ∧ fits .boolean (.int x) = true ∧ vp_nar .boolean x = x := by
  rcases h with rfl | rfl <;> refine ⟨by decide +kernel, by decide +kernel, by decide +kernel⟩
theorem am_okD (cx : am_Cx p s m args c own cc nL dC dI cA) (hi : am_inj ad) (hf : ∀ q ∈ fl, am_flok own q) (hX : lw = true → va_X (ad 79) n xs s s.heap ∧ ad 79 < s.heap.size ∧ ¬ am_A ad (ad 79))
    (hC : ∀ (a : Nat) (ins : Instr) (b d : Nat), cs[a]? = some (ins, b, d) → am_HC p l e R s m args below meth c cells slots Q cc nL ad dC dI cA n xs ins b d (F a)) (hRt : am_HR p l e R s m args below meth c cells slots Q cc ad dC dI cA n xs ret K)
    (hdec : decode cc pc = .ok (ins, nx - pc)) (hco : am_co ret nL fl ki kl cs pc ins nx a b d v w = true) (h : am_sD lw n F K ins nx a b d v ls st D L (am_Sd p l e R s m args below meth c cells slots Q nL ad dC dI cA n xs)) : am_Sd p l e R s m args below meth c cells slots Q nL ad dC dI cA n xs pc ls st D L := by
  unfold am_sD at h
  split at h
  · -- getfield
    intro rls H locs hl hR hS
    obtain ⟨hx, hb, hml, hown, hts, hK, hN⟩ := cx
    simp only [am_co, Bool.and_eq_true, decide_eq_true_eq] at hco
    obtain ⟨rfl, hfl, hb12, hd⟩ := hco
    rw [Nat.add_sub_cancel_left] at hdec
    obtain ⟨q, hq, hq2⟩ := am_any hfl
    simp only [Bool.and_eq_true, decide_eq_true_eq] at hq2
    obtain ⟨rfl, rfl, rfl⟩ := hq2
    obtain ⟨r, hr, hrn, hrj, hr1, hrl, -⟩ := hf q hq
    obtain ⟨hin, -, -⟩ := am_cls hr
    split at h
    · rename_i k rest
      split at h
      · rename_i e1
        have et : am_tag k = q.2.1 := Nat.eq_of_beq_eq_true e1
        have hk : k < 79 := am_tag_lt (by omega)
        have he : (am_w ad cA D L)[k]? = some (ad k, .inr (q.2.1, am_fs ad (D k) k)) := by rw [am_w_get hk, am_e_ob (by omega), et]
        have hv : (am_fs ad (D k) k)[q.2.2.1]? = some (bif am_isr q.2.1 q.2.2.1 then Value.ref (ad (am_rho k q.2.2.1)) else .int (D k q.2.2.1)) := by
          rw [← et]
          have : q.2.2.1 < am_nf (am_tag k) := by rw [et, ← hrn]; exact hrj
          simp [am_fs, this]
        have key : W p l e R s m args below meth c H locs cells slots Q (F0 m (pc + 3) rls ((bif am_isr q.2.1 q.2.2.1 then Value.ref (ad (am_rho k q.2.2.1)) else .int (D k q.2.2.1)) :: rest.map (am_c ad))) := by
          cases hz : am_isr q.2.1 q.2.2.1 with
          | false =>
            rw [hz] at hd
            subst hd
            exact h rls H locs hl hR hS
          | true =>
            rw [hz] at hd
            subst hd
            obtain ⟨row, g1, g2⟩ := am_nth_ex _ _ _ h
            obtain ⟨z, g3, g4⟩ := am_nth_ex _ _ _ g2
            have ez : am_rho k q.2.2.1 = z := by
              unfold am_rho
              rw [List.getD_eq_getElem?_getD, List.getD_eq_getElem?_getD, g1, Option.getD_some, g3, Option.getD_some]
            have := g4 rls H locs hl hR hS
            rw [← ez] at this
            exact this
        rcases hrl with ⟨-, hw⟩ | ⟨-, hw⟩
        · exact va_get (D := (dC, dI)) (C := r.1) (T := r.2.1) (N := r.2.2) hx hb hts hin hown hK hR.1 k he hr q.2.2.1 hrj (hts _ hw) (fun _ z => by rw [hr1] at z; exact z) hv hdec key
        · exact va_getN (D := (dC, dI)) (C := r.1) (T := r.2.1) (N := r.2.2) hx hb hts hin hown hK hR.1 k he hr q.2.2.1 hrj (va_Nw.use rfl (hN _ hw)) (fun _ z => by rw [hr1] at z; exact z) hv hdec key
      · exact absurd h id
    · exact absurd h id
  · -- putfield
    intro rls H locs hl hR hS
    obtain ⟨hx, hb, hml, hown, hts, hK, hN⟩ := cx
    simp only [am_co, Bool.and_eq_true, decide_eq_true_eq] at hco
    obtain ⟨rfl, hfl, hb12, hd⟩ := hco
    rw [Nat.add_sub_cancel_left] at hdec
    obtain ⟨q, hq, hq2⟩ := am_any hfl
    simp only [Bool.and_eq_true, decide_eq_true_eq] at hq2
    obtain ⟨rfl, rfl, rfl, hput⟩ := hq2
    obtain ⟨r, hr, hrn, hrj, hr1, hrl, hp⟩ := hf q hq
    obtain ⟨hfin, hisr, hty⟩ := hp hput
    obtain ⟨hin, ⟨ty0, hty0⟩, hnm⟩ := am_cls hr
    split at h
    · rename_i x k rest
      split at h
      · rename_i e1
        have et : am_tag k = q.2.1 := Nat.eq_of_beq_eq_true e1
        have hk : k < 79 := am_tag_lt (by omega)
        have he : (am_w ad cA D L)[k]? = some (ad k, .inr (q.2.1, am_fs ad (D k) k)) := by rw [am_w_get hk, am_e_ob (by omega), et]
        have hlen : q.2.2.1 < (am_fs ad (D k) k).length := by
          have : q.2.2.1 < am_nf (am_tag k) := by rw [et, ← hrn]; exact hrj
          simpa [am_fs] using this
        have h2 : (narrow (if am_isz q.2.1 q.2.2.1 = true then FieldType.boolean else .int) (.int x) = .int x ∧ fits (if am_isz q.2.1 q.2.2.1 = true then FieldType.boolean else .int) (.int x) = true) ∧ am_Sd p l e R s m args below meth c cells slots Q nL ad dC dI cA n xs (pc + 3) ls rest (am_up D k q.2.2.1 x) L := by
          cases hz : am_isz q.2.1 q.2.2.1 with
          | false =>
            rw [hz] at hd
            subst hd
            exact ⟨⟨rfl, rfl⟩, h⟩
          | true =>
            rw [hz] at hd
            subst hd
            exact ⟨⟨(am_nz h.1).1, (am_nz h.1).2.1⟩, h.2⟩
        have key : ∀ (H1 : Heap) (locs1 : List Loc), va_P (dC, dI) am_cl ((am_w ad cA D L).set k (ad k, .inr (q.2.1, (am_fs ad (D k) k).set q.2.2.1 (.int x)))) H1 → va_D (am_A ad) ((am_w ad cA D L).set k (ad k, .inr (q.2.1, (am_fs ad (D k) k).set q.2.2.1 (.int x)))) → va_S (am_A ad) s.heap H1 locs1 → W p l e R s m args below meth c H1 locs1 cells slots Q (F0 m (pc + 3) rls (rest.map (am_c ad))) := by
          intro H1 locs1 hP1 _ hS1
          refine h2.2 rls H1 locs1 hl (am_R_put hk ?_ hR.2 hP1) hS1
          rw [am_fs_set (by rw [et]; exact hisr), am_e_ob (by omega), et]
        rcases hrl with ⟨-, hw⟩ | ⟨-, hw⟩
        · exact va_put (D := (dC, dI)) (C := r.1) (T := r.2.1) (N := r.2.2) hx hb hts hin ty0 hty0 hnm hown hK hR.1 (am_w_D hi) hS k he hr q.2.2.1 hrj (hts _ hw) (fun _ z => by rw [hr1] at z; exact z) hfin hty h2.1.1 h2.1.2 hlen hdec key
        · exact va_putN (D := (dC, dI)) (C := r.1) (T := r.2.1) (N := r.2.2) hx hb hts hin ty0 hty0 hnm hown hK hR.1 (am_w_D hi) hS k he hr q.2.2.1 hrj (va_Nw.use rfl (hN _ hw)) (fun _ z => by rw [hr1] at z; exact z) hfin hty h2.1.1 h2.1.2 hlen hdec key
      · exact absurd h id
    · exact absurd h id
  · -- iaload
    intro rls H locs hl hR hS
    obtain ⟨hx, hb, hml, hown, hts, hK, hN⟩ := cx
    simp only [am_co, decide_eq_true_eq] at hco
    subst hco
    rw [Nat.add_sub_cancel_left] at hdec
    split at h
    · rename_i i k rest
      split at h
      · rename_i e1
        have et : am_tag k = 100 := Nat.eq_of_beq_eq_true e1
        have hk : k < 79 := am_tag_lt (by omega)
        exact va_iald hx hb hK hR.1 k 0 (by rw [am_w_get hk, am_e_100 et]) rfl h.1 hdec (h.2 rls H locs hl hR hS)
      · split at h
        · split at h
          · rename_i e2
            have ek : k = 79 := Nat.eq_of_beq_eq_true e2
            subst ek
            obtain ⟨x1, x2, x3⟩ := hX rfl
            refine va_sld hx hb x1 x2 x3 hS h.1 hdec ?_
            have hlt : i.toNatClampNeg < n := Nat.not_le.mp fun q => h.1 (Or.inr q)
            rw [← hR.2 _ hlt]
            exact h.2 rls H locs hl hR hS
          · exact absurd h id
        · exact absurd h id
    · exact absurd h id
  · -- iastore
    intro rls H locs hl hR hS
    obtain ⟨hx, hb, hml, hown, hts, hK, hN⟩ := cx
    simp only [am_co, decide_eq_true_eq] at hco
    subst hco
    rw [Nat.add_sub_cancel_left] at hdec
    split at h
    · rename_i x i k rest
      split at h
      · rename_i e1
        have et : am_tag k = 100 := Nat.eq_of_beq_eq_true e1
        have hk : k < 79 := am_tag_lt (by omega)
        exact va_iast hx hb hK hR.1 (am_w_D hi) hS k 0 (by rw [am_w_get hk, am_e_100 et]) rfl h.1 hdec (fun H1 locs1 hP1 _ hS1 => h.2 rls H1 locs1 hl (am_R_put hk (by rw [am_e_100 et]) hR.2 hP1) hS1)
      · exact absurd h id
    · exact absurd h id
  · -- baload
    intro rls H locs hl hR hS
    obtain ⟨hx, hb, hml, hown, hts, hK, hN⟩ := cx
    simp only [am_co, decide_eq_true_eq] at hco
    subst hco
    rw [Nat.add_sub_cancel_left] at hdec
    split at h
    · rename_i i k rest
      split at h
      · rename_i e1
        have et : am_tag k = 101 := Nat.eq_of_beq_eq_true e1
        have hk : k < 79 := am_tag_lt (by omega)
        exact va_zald hx hb hK hR.1 k 1 (by rw [am_w_get hk, am_e_101 et]) rfl h.1 hdec (h.2 rls H locs hl hR hS)
      · exact absurd h id
    · exact absurd h id
  · -- bastore
    intro rls H locs hl hR hS
    obtain ⟨hx, hb, hml, hown, hts, hK, hN⟩ := cx
    simp only [am_co, decide_eq_true_eq] at hco
    subst hco
    rw [Nat.add_sub_cancel_left] at hdec
    split at h
    · rename_i x i k rest
      split at h
      · rename_i e1
        have et : am_tag k = 101 := Nat.eq_of_beq_eq_true e1
        have hk : k < 79 := am_tag_lt (by omega)
        exact va_zast hx hb hK hR.1 (am_w_D hi) hS k 1 (by rw [am_w_get hk, am_e_101 et]) rfl h.2.1 hdec (fun H1 locs1 hP1 _ hS1 => h.2.2 rls H1 locs1 hl (am_R_put hk (by rw [am_e_101 et, (am_nz h.1).2.2]) hR.2 hP1) hS1)
      · exact absurd h id
    · exact absurd h id
  · -- laload
    intro rls H locs hl hR hS
    obtain ⟨hx, hb, hml, hown, hts, hK, hN⟩ := cx
    simp only [am_co, decide_eq_true_eq] at hco
    subst hco
    rw [Nat.add_sub_cancel_left] at hdec
    split at h
    · rename_i i k rest
      split at h
      · rename_i e1
        have et : am_tag k = 102 := Nat.eq_of_beq_eq_true e1
        have hk : k < 79 := am_tag_lt (by omega)
        exact va_lald hx hb hK hR.1 k 2 (by rw [am_w_get hk, am_e_102 et]) rfl h.1 hdec (h.2 rls H locs hl hR hS)
      · exact absurd h id
    · exact absurd h id
  · -- lastore
    intro rls H locs hl hR hS
    obtain ⟨hx, hb, hml, hown, hts, hK, hN⟩ := cx
    simp only [am_co, decide_eq_true_eq] at hco
    subst hco
    rw [Nat.add_sub_cancel_left] at hdec
    split at h
    · rename_i x i k rest
      split at h
      · rename_i e1
        have et : am_tag k = 102 := Nat.eq_of_beq_eq_true e1
        have hk : k < 79 := am_tag_lt (by omega)
        have hk2 : k = 38 := am_102 et
        refine va_last hx hb hK hR.1 (am_w_D hi) hS k 2 (by rw [am_w_get hk, am_e_102 et]) rfl h.1 hdec (fun H1 locs1 hP1 _ hS1 => h.2 rls H1 locs1 hl ⟨?_, hR.2⟩ hS1)
        rwa [am_w_set (D' := D) (L' := vp_updL L i.toNatClampNeg x) (by rw [am_e_102 et]) (fun q _ hq => am_e_L (fun hz => hq (by rw [hk2]; exact am_102 hz)))] at hP1
      · exact absurd h id
    · exact absurd h id
  · -- aaload
    intro rls H locs hl hR hS
    obtain ⟨hx, hb, hml, hown, hts, hK, hN⟩ := cx
    simp only [am_co, decide_eq_true_eq] at hco
    subst hco
    rw [Nat.add_sub_cancel_left] at hdec
    split at h
    · rename_i i k rest
      split at h
      · rename_i e1
        have et : am_tag k = 103 := Nat.eq_of_beq_eq_true e1
        have hk : k < 79 := am_tag_lt (by omega)
        exact va_aldq (f := fun i => some (ad (am_rho k i))) hx hb hK hR.1 k 3 (by rw [am_w_get hk, am_e_103 et]) rfl h.1 hdec (h.2 rls H locs hl hR hS)
      · exact absurd h id
    · exact absurd h id
  · -- arraylength
    intro rls H locs hl hR hS
    obtain ⟨hx, hb, hml, hown, hts, hK, hN⟩ := cx
    simp only [am_co, decide_eq_true_eq] at hco
    subst hco
    rw [Nat.add_sub_cancel_left] at hdec
    split at h
    · rename_i k rest
      split at h
      · rename_i e1
        have e1 := Nat.le_of_ble_eq_true e1
        split at h
        · rename_i e2
          have e2 := Nat.le_of_ble_eq_true e2
          have hk : k < 79 := am_tag_lt (by omega)
          have h4 : am_tag k = 100 ∨ am_tag k = 101 ∨ am_tag k = 102 ∨ am_tag k = 103 := by omega
          rcases h4 with et | et | et | et
          · exact va_alen (x := (am_len k, .inl (D k))) hx hb hK hR.1 k 0 (by rw [am_w_get hk, am_e_100 et]) rfl rfl hdec (h rls H locs hl hR hS)
          · exact va_alen (x := (am_len k, .inl (D k))) hx hb hK hR.1 k 1 (by rw [am_w_get hk, am_e_101 et]) rfl rfl hdec (h rls H locs hl hR hS)
          · exact va_alen (x := (am_len k, .inr (.inl L))) hx hb hK hR.1 k 2 (by rw [am_w_get hk, am_e_102 et]) rfl rfl hdec (h rls H locs hl hR hS)
          · exact va_alen (x := (am_len k, .inr (.inr (.inr (.inr (fun i => some (ad (am_rho k i)))))))) hx hb hK hR.1 k 3 (by rw [am_w_get hk, am_e_103 et]) rfl rfl hdec (h rls H locs hl hR hS)
        · split at h
          · split at h
            · rename_i e3
              have ek : k = 79 := Nat.eq_of_beq_eq_true e3
              subst ek
              obtain ⟨x1, x2, x3⟩ := hX rfl
              exact va_slen hx hb x1 x2 x3 hS hdec (h rls H locs hl hR hS)
            · exact absurd h id
          · exact absurd h id
      · exact absurd h id
    · exact absurd h id
  · exact am_okE hC hRt hdec hco h
theorem am_okC (cx : am_Cx p s m args c own cc nL dC dI cA) (hi : am_inj ad) (hf : ∀ q ∈ fl, am_flok own q) (hX : lw = true → va_X (ad 79) n xs s s.heap ∧ ad 79 < s.heap.size ∧ ¬ am_A ad (ad 79))
    (hC : ∀ (a : Nat) (ins : Instr) (b d : Nat), cs[a]? = some (ins, b, d) → am_HC p l e R s m args below meth c cells slots Q cc nL ad dC dI cA n xs ins b d (F a)) (hRt : am_HR p l e R s m args below meth c cells slots Q cc ad dC dI cA n xs ret K)
    (hdec : decode cc pc = .ok (ins, nx - pc)) (hco : am_co ret nL fl ki kl cs pc ins nx a b d v w = true) (h : am_sC lw n F K pc ins nx a b d v ls st D L (am_Sd p l e R s m args below meth c cells slots Q nL ad dC dI cA n xs)) : am_Sd p l e R s m args below meth c cells slots Q nL ad dC dI cA n xs pc ls st D L := by
  unfold am_sC at h
  split at h
  · -- goto
    intro rls H locs hl hR hS
    obtain ⟨hx, hb, -⟩ := cx
    simp only [am_co, Bool.and_eq_true, decide_eq_true_eq] at hco
    obtain ⟨ht, rfl⟩ := hco
    rw [Nat.add_sub_cancel_left] at hdec
    exact lv_goto hx hb hdec ht (h rls H locs hl hR hS)
  · -- if_icmp
    intro rls H locs hl hR hS
    obtain ⟨hx, hb, -⟩ := cx
    simp only [am_co, Bool.and_eq_true, decide_eq_true_eq] at hco
    obtain ⟨ht, rfl⟩ := hco
    rw [Nat.add_sub_cancel_left] at hdec
    split at h
    · split at h
      · exact lv_icmp_eq hx hb hdec ht (fun q => h.1 q rls H locs hl hR hS) (fun q => h.2 q rls H locs hl hR hS)
      · exact lv_icmp_ne hx hb hdec ht (fun q => h.1 q rls H locs hl hR hS) (fun q => h.2 q rls H locs hl hR hS)
      · exact lv_icmp_lt hx hb hdec ht (fun q => h.1 q rls H locs hl hR hS) (fun q => h.2 q rls H locs hl hR hS)
      · exact lv_icmp_ge hx hb hdec ht (fun q => h.1 q rls H locs hl hR hS) (fun q => h.2 q rls H locs hl hR hS)
      · exact lv_icmp_gt hx hb hdec ht (fun q => h.1 q rls H locs hl hR hS) (fun q => h.2 q rls H locs hl hR hS)
      · exact lv_icmp_le hx hb hdec ht (fun q => h.1 q rls H locs hl hR hS) (fun q => h.2 q rls H locs hl hR hS)
    · exact absurd h id
  · -- ifCond
    intro rls H locs hl hR hS
    obtain ⟨hx, hb, -⟩ := cx
    simp only [am_co, Bool.and_eq_true, decide_eq_true_eq] at hco
    obtain ⟨ht, rfl⟩ := hco
    rw [Nat.add_sub_cancel_left] at hdec
    split at h
    · split at h
      · exact lv_if_eq hx hb hdec ht (fun q => h.1 q rls H locs hl hR hS) (fun q => h.2 q rls H locs hl hR hS)
      · exact lv_if_ne hx hb hdec ht (fun q => h.1 q rls H locs hl hR hS) (fun q => h.2 q rls H locs hl hR hS)
      · exact lv_if_lt hx hb hdec ht (fun q => h.1 q rls H locs hl hR hS) (fun q => h.2 q rls H locs hl hR hS)
      · exact lv_if_ge hx hb hdec ht (fun q => h.1 q rls H locs hl hR hS) (fun q => h.2 q rls H locs hl hR hS)
      · exact lv_if_gt hx hb hdec ht (fun q => h.1 q rls H locs hl hR hS) (fun q => h.2 q rls H locs hl hR hS)
      · exact lv_if_le hx hb hdec ht (fun q => h.1 q rls H locs hl hR hS) (fun q => h.2 q rls H locs hl hR hS)
    · exact absurd h id
  · -- ifnull
    intro rls H locs hl hR hS
    obtain ⟨hx, hb, -⟩ := cx
    simp only [am_co, Bool.and_eq_true, decide_eq_true_eq] at hco
    obtain ⟨ht, rfl⟩ := hco
    rw [Nat.add_sub_cancel_left] at hdec
    split at h
    · exact lv_ifnull hx hb hdec (h rls H locs hl hR hS)
    · exact lv_ifnullN hx hb hdec ht (h rls H locs hl hR hS)
    · exact absurd h id
  · -- ifnonnull
    intro rls H locs hl hR hS
    obtain ⟨hx, hb, -⟩ := cx
    simp only [am_co, Bool.and_eq_true, decide_eq_true_eq] at hco
    obtain ⟨ht, rfl⟩ := hco
    rw [Nat.add_sub_cancel_left] at hdec
    split at h
    · exact lv_ifnonnull hx hb hdec ht (h rls H locs hl hR hS)
    · exact lv_ifnonnullN hx hb hdec (h rls H locs hl hR hS)
    · exact absurd h id
  · -- tableswitch
    rename_i df lo hi' offs
    intro rls H locs hl hR hS
    obtain ⟨hx, hb, -⟩ := cx
    simp only [am_co, Bool.and_eq_true, decide_eq_true_eq] at hco
    obtain ⟨ht, hsz, hall⟩ := hco
    split at h
    · rename_i x rest
      by_cases hout : x.toInt < lo ∨ hi' < x.toInt
      · exact lv_tableOut hx hb hdec hout ht (h.2 hout rls H locs hl hR hS)
      · have h1 : ¬ x.toInt < lo := fun q => hout (Or.inl q)
        have h2 : ¬ hi' < x.toInt := fun q => hout (Or.inr q)
        have hlt : (x.toInt - lo).toNat < offs.size := by omega
        have ho : offs[(x.toInt - lo).toNat]? = some offs[(x.toInt - lo).toNat] := Array.getElem?_eq_getElem hlt
        have h0 : 0 ≤ (pc : Int) + offs[(x.toInt - lo).toNat] := by
          have := Array.all_eq_true.mp hall _ hlt
          simpa using this
        refine lv_tableIn hx hb hdec h1 h2 ho (tgt := ((pc : Int) + offs[(x.toInt - lo).toNat]).toNat) (by omega) (h.1 _ _ ho (by omega) rls H locs hl hR hS)
    · exact absurd h id
  · exact am_okD cx hi hf hX hC hRt hdec hco h
theorem am_okB (cx : am_Cx p s m args c own cc nL dC dI cA) (hi : am_inj ad) (hf : ∀ q ∈ fl, am_flok own q) (hX : lw = true → va_X (ad 79) n xs s s.heap ∧ ad 79 < s.heap.size ∧ ¬ am_A ad (ad 79))
    (hC : ∀ (a : Nat) (ins : Instr) (b d : Nat), cs[a]? = some (ins, b, d) → am_HC p l e R s m args below meth c cells slots Q cc nL ad dC dI cA n xs ins b d (F a)) (hRt : am_HR p l e R s m args below meth c cells slots Q cc ad dC dI cA n xs ret K)
    (hdec : decode cc pc = .ok (ins, nx - pc)) (hco : am_co ret nL fl ki kl cs pc ins nx a b d v w = true) (h : am_sB lw n F K pc ins nx a b d v ls st D L (am_Sd p l e R s m args below meth c cells slots Q nL ad dC dI cA n xs)) : am_Sd p l e R s m args below meth c cells slots Q nL ad dC dI cA n xs pc ls st D L := by
  unfold am_sB at h
  split at h
  · intro rls H locs hl hR hS
    obtain ⟨hx, hb, -⟩ := cx
    simp only [am_co, decide_eq_true_eq] at hco
    subst hco
    rw [Nat.add_sub_cancel_left] at hdec
    split at h
    · exact lv_iadd hx hb hdec (h rls H locs hl hR hS)
    · exact absurd h id
  · intro rls H locs hl hR hS
    obtain ⟨hx, hb, -⟩ := cx
    simp only [am_co, decide_eq_true_eq] at hco
    subst hco
    rw [Nat.add_sub_cancel_left] at hdec
    split at h
    · exact lv_isub hx hb hdec (h rls H locs hl hR hS)
    · exact absurd h id
  · intro rls H locs hl hR hS
    obtain ⟨hx, hb, -⟩ := cx
    simp only [am_co, decide_eq_true_eq] at hco
    subst hco
    rw [Nat.add_sub_cancel_left] at hdec
    split at h
    · exact lv_imul hx hb hdec (h rls H locs hl hR hS)
    · exact absurd h id
  · intro rls H locs hl hR hS
    obtain ⟨hx, hb, -⟩ := cx
    simp only [am_co, decide_eq_true_eq] at hco
    subst hco
    rw [Nat.add_sub_cancel_left] at hdec
    split at h
    · exact lv_iand hx hb hdec (h rls H locs hl hR hS)
    · exact absurd h id
  · intro rls H locs hl hR hS
    obtain ⟨hx, hb, -⟩ := cx
    simp only [am_co, decide_eq_true_eq] at hco
    subst hco
    rw [Nat.add_sub_cancel_left] at hdec
    split at h
    · exact lv_ior hx hb hdec (h rls H locs hl hR hS)
    · exact absurd h id
  · intro rls H locs hl hR hS
    obtain ⟨hx, hb, -⟩ := cx
    simp only [am_co, decide_eq_true_eq] at hco
    subst hco
    rw [Nat.add_sub_cancel_left] at hdec
    split at h
    · exact lv_ixor hx hb hdec (h rls H locs hl hR hS)
    · exact absurd h id
  · intro rls H locs hl hR hS
    obtain ⟨hx, hb, -⟩ := cx
    simp only [am_co, decide_eq_true_eq] at hco
    subst hco
    rw [Nat.add_sub_cancel_left] at hdec
    split at h
    · exact lv_ishl hx hb hdec (h rls H locs hl hR hS)
    · exact absurd h id
  · intro rls H locs hl hR hS
    obtain ⟨hx, hb, -⟩ := cx
    simp only [am_co, decide_eq_true_eq] at hco
    subst hco
    rw [Nat.add_sub_cancel_left] at hdec
    split at h
    · exact lv_ishr hx hb hdec (h rls H locs hl hR hS)
    · exact absurd h id
  · intro rls H locs hl hR hS
    obtain ⟨hx, hb, -⟩ := cx
    simp only [am_co, decide_eq_true_eq] at hco
    subst hco
    rw [Nat.add_sub_cancel_left] at hdec
    split at h
    · exact lv_iushr hx hb hdec rfl (h rls H locs hl hR hS)
    · exact absurd h id
  · intro rls H locs hl hR hS
    obtain ⟨hx, hb, -⟩ := cx
    simp only [am_co, decide_eq_true_eq] at hco
    subst hco
    rw [Nat.add_sub_cancel_left] at hdec
    split at h
    · exact lv_idiv hx hb hdec h.1 (h.2 rls H locs hl hR hS)
    · exact absurd h id
  · intro rls H locs hl hR hS
    obtain ⟨hx, hb, -⟩ := cx
    simp only [am_co, decide_eq_true_eq] at hco
    subst hco
    rw [Nat.add_sub_cancel_left] at hdec
    split at h
    · exact lv_irem hx hb hdec h.1 (h.2 rls H locs hl hR hS)
    · exact absurd h id
  · intro rls H locs hl hR hS
    obtain ⟨hx, hb, -⟩ := cx
    simp only [am_co, decide_eq_true_eq] at hco
    subst hco
    rw [Nat.add_sub_cancel_left] at hdec
    split at h
    · exact lv_ineg hx hb hdec (h rls H locs hl hR hS)
    · exact absurd h id
  · intro rls H locs hl hR hS
    obtain ⟨hx, hb, -⟩ := cx
    simp only [am_co, decide_eq_true_eq] at hco
    subst hco
    rw [Nat.add_sub_cancel_left] at hdec
    split at h
    · exact lv_ladd hx hb hdec (h rls H locs hl hR hS)
    · exact absurd h id
  · intro rls H locs hl hR hS
    obtain ⟨hx, hb, -⟩ := cx
    simp only [am_co, decide_eq_true_eq] at hco
    subst hco
    rw [Nat.add_sub_cancel_left] at hdec
    split at h
    · exact lv_lsub hx hb hdec (h rls H locs hl hR hS)
    · exact absurd h id
  · intro rls H locs hl hR hS
    obtain ⟨hx, hb, -⟩ := cx
    simp only [am_co, decide_eq_true_eq] at hco
    subst hco
    rw [Nat.add_sub_cancel_left] at hdec
    split at h
    · exact lv_lmul hx hb hdec (h rls H locs hl hR hS)
    · exact absurd h id
  · intro rls H locs hl hR hS
    obtain ⟨hx, hb, -⟩ := cx
    simp only [am_co, decide_eq_true_eq] at hco
    subst hco
    rw [Nat.add_sub_cancel_left] at hdec
    split at h
    · exact lv_ldiv hx hb hdec h.1 (h.2 rls H locs hl hR hS)
    · exact absurd h id
  · intro rls H locs hl hR hS
    obtain ⟨hx, hb, -⟩ := cx
    simp only [am_co, decide_eq_true_eq] at hco
    subst hco
    rw [Nat.add_sub_cancel_left] at hdec
    split at h
    · exact lv_lrem hx hb hdec h.1 (h.2 rls H locs hl hR hS)
    · exact absurd h id
  · intro rls H locs hl hR hS
    obtain ⟨hx, hb, -⟩ := cx
    simp only [am_co, decide_eq_true_eq] at hco
    subst hco
    rw [Nat.add_sub_cancel_left] at hdec
    split at h
    · exact lv_lshl hx hb hdec rfl (h rls H locs hl hR hS)
    · exact absurd h id
  · intro rls H locs hl hR hS
    obtain ⟨hx, hb, -⟩ := cx
    simp only [am_co, decide_eq_true_eq] at hco
    subst hco
    rw [Nat.add_sub_cancel_left] at hdec
    split at h
    · exact W.lcmp hx hb hdec (h rls H locs hl hR hS)
    · exact absurd h id
  · intro rls H locs hl hR hS
    obtain ⟨hx, hb, -⟩ := cx
    simp only [am_co, decide_eq_true_eq] at hco
    subst hco
    rw [Nat.add_sub_cancel_left] at hdec
    split at h
    · exact lv_i2l hx hb hdec rfl (h rls H locs hl hR hS)
    · exact absurd h id
  · intro rls H locs hl hR hS
    obtain ⟨hx, hb, -⟩ := cx
    simp only [am_co, decide_eq_true_eq] at hco
    subst hco
    rw [Nat.add_sub_cancel_left] at hdec
    split at h
    · exact lv_i2b hx hb hdec rfl (h rls H locs hl hR hS)
    · exact absurd h id
  · intro rls H locs hl hR hS
    obtain ⟨hx, hb, -⟩ := cx
    simp only [am_co, decide_eq_true_eq] at hco
    subst hco
    rw [Nat.add_sub_cancel_left] at hdec
    split at h
    · exact lv_i2s hx hb hdec rfl (h rls H locs hl hR hS)
    · exact absurd h id
  · exact am_okC cx hi hf hX hC hRt hdec hco h
theorem am_okA (cx : am_Cx p s m args c own cc nL dC dI cA) (hi : am_inj ad) (hf : ∀ q ∈ fl, am_flok own q) (hki : ∀ q ∈ ki, Cond.constant own q.1 q.2 ∈ am_tbl) (hkl : ∀ q ∈ kl, Cond.constantLong own q.1 q.2 ∈ am_tbl) (hX : lw = true → va_X (ad 79) n xs s s.heap ∧ ad 79 < s.heap.size ∧ ¬ am_A ad (ad 79))
    (hC : ∀ (a : Nat) (ins : Instr) (b d : Nat), cs[a]? = some (ins, b, d) → am_HC p l e R s m args below meth c cells slots Q cc nL ad dC dI cA n xs ins b d (F a)) (hRt : am_HR p l e R s m args below meth c cells slots Q cc ad dC dI cA n xs ret K)
    (hdec : decode cc pc = .ok (ins, nx - pc)) (hco : am_co ret nL fl ki kl cs pc ins nx a b d v w = true) (h : am_sA lw n F K pc ins nx a b d v w ls st D L (am_Sd p l e R s m args below meth c cells slots Q nL ad dC dI cA n xs)) : am_Sd p l e R s m args below meth c cells slots Q nL ad dC dI cA n xs pc ls st D L := by
  unfold am_sA at h
  split at h
  · intro rls H locs hl hR hS
    obtain ⟨hx, hb, hml, hown, hts, hK, hN⟩ := cx
    simp only [am_co, Bool.and_eq_true, decide_eq_true_eq] at hco
    obtain ⟨rfl, hv⟩ := hco
    rw [Nat.add_sub_cancel_left] at hdec
    exact lv_iconst hx hb hdec hv (h rls H locs hl hR hS)
  · intro rls H locs hl hR hS
    obtain ⟨hx, hb, hml, hown, hts, hK, hN⟩ := cx
    simp only [am_co, Bool.and_eq_true, decide_eq_true_eq] at hco
    obtain ⟨rfl, hv⟩ := hco
    rw [Nat.add_sub_cancel_left] at hdec
    exact lv_bipush hx hb hdec hv (h rls H locs hl hR hS)
  · intro rls H locs hl hR hS
    obtain ⟨hx, hb, hml, hown, hts, hK, hN⟩ := cx
    simp only [am_co, Bool.and_eq_true, decide_eq_true_eq] at hco
    obtain ⟨rfl, hv⟩ := hco
    rw [Nat.add_sub_cancel_left] at hdec
    exact lv_sipush hx hb hdec hv (h rls H locs hl hR hS)
  · intro rls H locs hl hR hS
    obtain ⟨hx, hb, hml, hown, hts, hK, hN⟩ := cx
    simp only [am_co, Bool.and_eq_true, decide_eq_true_eq] at hco
    obtain ⟨rfl, hv⟩ := hco
    rw [Nat.add_sub_cancel_left] at hdec
    exact lv_ldc hx hb hown (hts _ (hki _ hv)) hdec (h rls H locs hl hR hS)
  · intro rls H locs hl hR hS
    obtain ⟨hx, hb, hml, hown, hts, hK, hN⟩ := cx
    simp only [am_co, Bool.and_eq_true, decide_eq_true_eq] at hco
    obtain ⟨rfl, hv⟩ := hco
    rw [Nat.add_sub_cancel_left] at hdec
    exact lv_ldcw hx hb hown (hts _ (hki _ hv)) hdec (h rls H locs hl hR hS)
  · intro rls H locs hl hR hS
    obtain ⟨hx, hb, hml, hown, hts, hK, hN⟩ := cx
    simp only [am_co, Bool.and_eq_true, decide_eq_true_eq] at hco
    obtain ⟨rfl, hv⟩ := hco
    rw [Nat.add_sub_cancel_left] at hdec
    exact lv_lconst hx hb hdec hv (h rls H locs hl hR hS)
  · intro rls H locs hl hR hS
    obtain ⟨hx, hb, hml, hown, hts, hK, hN⟩ := cx
    simp only [am_co, Bool.and_eq_true, decide_eq_true_eq] at hco
    obtain ⟨rfl, hv⟩ := hco
    rw [Nat.add_sub_cancel_left] at hdec
    exact lv_ldc2 hx hb hown (hts _ (hkl _ hv)) hdec (h rls H locs hl hR hS)
  · intro rls H locs hl hR hS
    obtain ⟨hx, hb, hml, hown, hts, hK, hN⟩ := cx
    simp only [am_co, Bool.and_eq_true, decide_eq_true_eq] at hco
    subst hco
    rw [Nat.add_sub_cancel_left] at hdec
    exact lv_null hx hb hdec (h rls H locs hl hR hS)
  · intro rls H locs hl hR hS
    obtain ⟨hx, hb, hml, hown, hts, hK, hN⟩ := cx
    simp only [am_co, Bool.and_eq_true, decide_eq_true_eq] at hco
    obtain ⟨rfl, hv⟩ := hco
    rw [Nat.add_sub_cancel_left] at hdec
    split at h
    · rename_i e
      exact lv_iload hx hb hdec (by subst hv; exact hl.2.2 _ _ e) (h rls H locs hl hR hS)
    · exact absurd h id
  · intro rls H locs hl hR hS
    obtain ⟨hx, hb, hml, hown, hts, hK, hN⟩ := cx
    simp only [am_co, Bool.and_eq_true, decide_eq_true_eq] at hco
    obtain ⟨rfl, hv⟩ := hco
    rw [Nat.add_sub_cancel_left] at hdec
    split at h
    · rename_i e
      exact lv_iload_n hx hb hdec hv (hl.2.2 _ _ e) (h rls H locs hl hR hS)
    · exact absurd h id
  · intro rls H locs hl hR hS
    obtain ⟨hx, hb, hml, hown, hts, hK, hN⟩ := cx
    simp only [am_co, Bool.and_eq_true, decide_eq_true_eq] at hco
    obtain ⟨rfl, hv⟩ := hco
    rw [Nat.add_sub_cancel_left] at hdec
    split at h
    · rename_i e
      exact lv_lload hx hb hdec (by subst hv; exact hl.2.2 _ _ e) (h rls H locs hl hR hS)
    · exact absurd h id
  · intro rls H locs hl hR hS
    obtain ⟨hx, hb, hml, hown, hts, hK, hN⟩ := cx
    simp only [am_co, Bool.and_eq_true, decide_eq_true_eq] at hco
    obtain ⟨rfl, hv⟩ := hco
    rw [Nat.add_sub_cancel_left] at hdec
    split at h
    · rename_i e
      exact lv_lload_n hx hb hdec hv (hl.2.2 _ _ e) (h rls H locs hl hR hS)
    · exact absurd h id
  · intro rls H locs hl hR hS
    obtain ⟨hx, hb, hml, hown, hts, hK, hN⟩ := cx
    simp only [am_co, Bool.and_eq_true, decide_eq_true_eq] at hco
    obtain ⟨rfl, hv⟩ := hco
    rw [Nat.add_sub_cancel_left] at hdec
    split at h
    · rename_i e
      exact lv_aload hx hb hdec (by subst hv; exact hl.2.2 _ _ e) (h rls H locs hl hR hS)
    · rename_i e
      exact lv_aloadN hx hb hdec (by subst hv; exact hl.2.2 _ _ e) (h rls H locs hl hR hS)
    · exact absurd h id
  · intro rls H locs hl hR hS
    obtain ⟨hx, hb, hml, hown, hts, hK, hN⟩ := cx
    simp only [am_co, Bool.and_eq_true, decide_eq_true_eq] at hco
    obtain ⟨rfl, hv⟩ := hco
    rw [Nat.add_sub_cancel_left] at hdec
    split at h
    · rename_i e
      exact lv_aload_n hx hb hdec hv (hl.2.2 _ _ e) (h rls H locs hl hR hS)
    · rename_i e
      exact lv_aload_nN hx hb hdec hv (hl.2.2 _ _ e) (h rls H locs hl hR hS)
    · exact absurd h id
  · intro rls H locs hl hR hS
    obtain ⟨hx, hb, hml, hown, hts, hK, hN⟩ := cx
    simp only [am_co, Bool.and_eq_true, decide_eq_true_eq] at hco
    obtain ⟨rfl, rfl, hn⟩ := hco
    rw [Nat.add_sub_cancel_left] at hdec
    split at h
    · obtain ⟨ls', h1, -, h3⟩ := am_s1_ex _ _ _ _ h
      exact lv_istore hx hb hdec (am_lv_has hl) hn rfl (fun rls' hh => h1 rls' H locs (am_lv1 hl hh h3) hR hS)
    · exact absurd h id
  · intro rls H locs hl hR hS
    obtain ⟨hx, hb, hml, hown, hts, hK, hN⟩ := cx
    simp only [am_co, Bool.and_eq_true, decide_eq_true_eq] at hco
    obtain ⟨rfl, hv, hn⟩ := hco
    rw [Nat.add_sub_cancel_left] at hdec
    split at h
    · obtain ⟨ls', h1, -, h3⟩ := am_s1_ex _ _ _ _ h
      exact lv_istore_n hx hb hdec hv (am_lv_has hl) hn rfl (fun rls' hh => h1 rls' H locs (am_lv1 hl hh h3) hR hS)
    · exact absurd h id
  · intro rls H locs hl hR hS
    obtain ⟨hx, hb, hml, hown, hts, hK, hN⟩ := cx
    simp only [am_co, Bool.and_eq_true, decide_eq_true_eq] at hco
    obtain ⟨rfl, rfl, hn⟩ := hco
    rw [Nat.add_sub_cancel_left] at hdec
    split at h
    · obtain ⟨ls', h1, -, h3⟩ := am_s2_ex _ _ _ _ h
      exact lv_lstore hx hb hdec (am_lv_has hl) hn rfl (fun rls' hh => h1 rls' H locs (am_lv2 hl hh h3) hR hS)
    · exact absurd h id
  · intro rls H locs hl hR hS
    obtain ⟨hx, hb, hml, hown, hts, hK, hN⟩ := cx
    simp only [am_co, Bool.and_eq_true, decide_eq_true_eq] at hco
    obtain ⟨rfl, hv, hn⟩ := hco
    rw [Nat.add_sub_cancel_left] at hdec
    split at h
    · obtain ⟨ls', h1, -, h3⟩ := am_s2_ex _ _ _ _ h
      exact lv_lstore_n hx hb hdec hv (am_lv_has hl) hn rfl (fun rls' hh => h1 rls' H locs (am_lv2 hl hh h3) hR hS)
    · exact absurd h id
  · intro rls H locs hl hR hS
    obtain ⟨hx, hb, hml, hown, hts, hK, hN⟩ := cx
    simp only [am_co, Bool.and_eq_true, decide_eq_true_eq] at hco
    obtain ⟨rfl, rfl, hn⟩ := hco
    rw [Nat.add_sub_cancel_left] at hdec
    split at h
    · obtain ⟨ls', h1, -, h3⟩ := am_s1_ex _ _ _ _ h
      exact lv_astore hx hb hdec (am_lv_has hl) hn rfl (fun rls' hh => h1 rls' H locs (am_lv1 hl hh h3) hR hS)
    · obtain ⟨ls', h1, -, h3⟩ := am_s1_ex _ _ _ _ h
      exact lv_astoreN hx hb hdec (am_lv_has hl) hn rfl (fun rls' hh => h1 rls' H locs (am_lv1 hl hh h3) hR hS)
    · exact absurd h id
  · intro rls H locs hl hR hS
    obtain ⟨hx, hb, hml, hown, hts, hK, hN⟩ := cx
    simp only [am_co, Bool.and_eq_true, decide_eq_true_eq] at hco
    obtain ⟨rfl, hv, hn⟩ := hco
    rw [Nat.add_sub_cancel_left] at hdec
    split at h
    · obtain ⟨ls', h1, -, h3⟩ := am_s1_ex _ _ _ _ h
      exact lv_astore_n hx hb hdec hv (am_lv_has hl) hn rfl (fun rls' hh => h1 rls' H locs (am_lv1 hl hh h3) hR hS)
    · obtain ⟨ls', h1, -, h3⟩ := am_s1_ex _ _ _ _ h
      exact lv_astore_nN hx hb hdec hv (am_lv_has hl) hn rfl (fun rls' hh => h1 rls' H locs (am_lv1 hl hh h3) hR hS)
    · exact absurd h id
  · intro rls H locs hl hR hS
    obtain ⟨hx, hb, hml, hown, hts, hK, hN⟩ := cx
    simp only [am_co, Bool.and_eq_true, decide_eq_true_eq] at hco
    obtain ⟨rfl, rfl, hv, hn⟩ := hco
    rw [Nat.add_sub_cancel_left] at hdec
    split at h
    · rename_i x e
      obtain ⟨ls', h1, -, h3⟩ := am_s1_ex _ _ _ _ h
      obtain ⟨j, hj⟩ := List.getElem?_of_mem (am_ents_mem hl e)
      exact lv_iinc hx hb hdec (am_lv_has hl) hj (by rw [hv]) hn rfl (fun rls' hh => h1 rls' H locs (am_lv1 hl hh h3) hR hS)
    · exact absurd h id
  · intro rls H locs hl hR hS
    obtain ⟨hx, hb, hml, hown, hts, hK, hN⟩ := cx
    simp only [am_co, Bool.and_eq_true, decide_eq_true_eq] at hco
    subst hco
    rw [Nat.add_sub_cancel_left] at hdec
    split at h
    · exact lv_dup hx hb hdec rfl (h rls H locs hl hR hS)
    · exact lv_dup hx hb hdec rfl (h rls H locs hl hR hS)
    · exact absurd h id
  · intro rls H locs hl hR hS
    obtain ⟨hx, hb, hml, hown, hts, hK, hN⟩ := cx
    simp only [am_co, Bool.and_eq_true, decide_eq_true_eq] at hco
    subst hco
    rw [Nat.add_sub_cancel_left] at hdec
    split at h
    · exact lv_dup2_11 hx hb hdec rfl rfl (h rls H locs hl hR hS)
    · exact absurd h id
  · intro rls H locs hl hR hS
    obtain ⟨hx, hb, hml, hown, hts, hK, hN⟩ := cx
    simp only [am_co, Bool.and_eq_true, decide_eq_true_eq] at hco
    subst hco
    rw [Nat.add_sub_cancel_left] at hdec
    split at h
    · exact lv_pop hx hb hdec rfl (h rls H locs hl hR hS)
    · exact absurd h id
  · exact am_okB cx hi hf hX hC hRt hdec hco h
/-- THE ABSTRACT MACHINE IS SOUND -/
theorem am_sound {C : Nat → Option am_I} (cx : am_Cx p s m args c own cc nL dC dI cA) (hi : am_inj ad) (hf : ∀ q ∈ fl, am_flok own q) (hki : ∀ q ∈ ki, Cond.constant own q.1 q.2 ∈ am_tbl) (hkl : ∀ q ∈ kl, Cond.constantLong own q.1 q.2 ∈ am_tbl) (hX : lw = true → va_X (ad 79) n xs s s.heap ∧ ad 79 < s.heap.size ∧ ¬ am_A ad (ad 79))
    (hC : ∀ (a : Nat) (ins : Instr) (b d : Nat), cs[a]? = some (ins, b, d) → am_HC p l e R s m args below meth c cells slots Q cc nL ad dC dI cA n xs ins b d (F a)) (hRt : am_HR p l e R s m args below meth c cells slots Q cc ad dC dI cA n xs ret K)
    (hck : ∀ pc, am_ck cc ret nL fl ki kl cs pc (C pc) = true) (h : am_Wp lw n C F K pc ls st D L) : am_Sd p l e R s m args below meth c cells slots Q nL ad dC dI cA n xs pc ls st D L := by
  refine h _ (fun pc ls st D L h' => ?_)
  unfold am_st at h'
  have hk := hck pc
  split at h'
  · rename_i q ins nx a b d v w e1
    rw [e1] at hk
    simp only [am_ck, Bool.and_eq_true, decide_eq_true_eq] at hk
    exact am_okA cx hi hf hki hkl hX hC hRt hk.1 hk.2 h'
  · exact absurd h' id
end SO
