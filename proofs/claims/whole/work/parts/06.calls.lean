/-! methods by contract, and calls -/
def am_lo : Nat → List Value → am_V
  | n, [] => List.replicate n none
  | n, .long x :: t => some (.long x) :: none :: am_lo (n - 2) t
  | n, v :: t => some v :: am_lo (n - 1) t
theorem am_gl_rep (n i : Nat) : am_gl (List.replicate n none) i = none := by
  induction n generalizing i with
  | zero => rfl
  | succ n ih =>
    cases i with
    | zero => rfl
    | succ i => exact ih i
theorem am_lo_args (ad : Nat → Nat) : ∀ (as : List Value) (n i b : Nat) (v : Value), (∀ v ∈ as, ∀ x, v ≠ .double x) → am_gl (am_lo n as) i = some v → (b + i, am_c ad v) ∈ lv_args b (as.map (am_c ad))
  | [], n, i, b, v, _, h => by rw [am_lo, am_gl_rep] at h; cases h
  | v0 :: t, n, i, b, v, hd, h => by
    have hd' : ∀ v ∈ t, ∀ x, v ≠ .double x := fun v hv => hd v (List.mem_cons_of_mem _ hv)
    have one : ∀ (w : Value), v0 = w → am_lo n (v0 :: t) = some w :: am_lo (n - 1) t → w.category = 1 → (b + i, am_c ad v) ∈ lv_args b ((v0 :: t).map (am_c ad)) := by
      intro w hw hlo hc
      rw [hlo] at h
      subst hw
      match i, h with
      | 0, h => simp only [am_gl, Option.some.injEq] at h; subst h; exact List.mem_cons_self
      | i + 1, h =>
        have := am_lo_args ad t (n - 1) i (b + 1) v hd' h
        rw [List.map_cons, lv_args, if_neg (by rw [am_c_cat, hc]; decide)]
        refine List.mem_cons_of_mem _ ?_
        rw [show b + (i + 1) = b + 1 + i by omega]
        exact this
    cases v0 with
    | long x =>
      match i, h with
      | 0, h => simp only [am_lo, am_gl, Option.some.injEq] at h; subst h; exact List.mem_cons_self
      | 1, h => simp [am_lo, am_gl] at h
      | i + 2, h =>
        have := am_lo_args ad t (n - 2) i (b + 2) v hd' h
        rw [List.map_cons, lv_args, if_pos (by rw [am_c_cat]; rfl)]
        refine List.mem_cons_of_mem _ ?_
        rw [show b + (i + 2) = b + 2 + i by omega]
        exact this
    | double x => exact absurd rfl (hd _ List.mem_cons_self x)
    | int x => exact one _ rfl rfl rfl
    | float x => exact one _ rfl rfl rfl
    | null => exact one _ rfl rfl rfl
    | ref x => exact one _ rfl rfl rfl
    | retAddr x => exact one _ rfl rfl rfl
/-- the script's length is of no use outside the law -/
theorem am_Wp_n {n n' : Nat} {C : Nat → Option am_I} {F : Nat → am_Sp} {K : am_K} {pc : Nat} {ls : am_V} {st : List Value} {D : am_D} {L : am_L} (h : am_Wp false n C F K pc ls st D L) : am_Wp false n' C F K pc ls st D L := by
  intro X hX
  refine h X (fun pc ls st D L h' => hX pc ls st D L ?_)
  unfold am_st at h' ⊢
  split at h'
  · unfold am_sA at h' ⊢
    split at h'
    all_goals first
      | exact h'
      | (unfold am_sB at h' ⊢
         split at h'
         all_goals first
           | exact h'
           | (unfold am_sC at h' ⊢
              split at h'
              all_goals first
                | exact h'
                | (unfold am_sD at h' ⊢
                   split at h'
                   all_goals first
                     | exact h'
                     | (repeat' split at h'
                        all_goals first
                          | exact h'
                          | exact absurd h' id))))
  · exact h'
def am_rm (d : Nat) : Room := { frames := d, cells := 0, slots := 0, locals := 32 * d }
def am_ws (y : MethodName) (bytes : ByteArray) (maxL : Nat) (ret : Option FieldType) : List Cond := Cond.code y bytes maxL ret :: am_tbl
def am_Pc (ad : Nat → Nat) (dC : Nat → ClassId) (dI : Nat → Nat → Nat) (cA : Nat → ClassId) (n : Nat) (xs : Nat → Int32) (as : List Value) (D : am_D) (L : am_L) : Array Value → State → Prop := fun v U => v = (as.map (am_c ad)).toArray ∧ am_R ad dC dI cA n xs D L U.heap ∧ va_K (dC, dI) am_cl (am_tys cA) U ∧ am_N U
def am_Qc (ad : Nat → Nat) (dC : Nat → ClassId) (dI : Nat → Nat → Nat) (cA : Nat → ClassId) (n : Nat) (xs : Nat → Int32) (K : am_K) : Array Value → State → Outcome → State → Prop := fun _ st o t => (∃ (r : Option Value) (D : am_D) (L : am_L), o = .returned (r.map (am_c ad)) ∧ K r D L ∧ am_R ad dC dI cA n xs D L t.heap) ∧ va_F (am_A ad) st t
/-- a method keeps its spec, d calls deep at most -/
def am_Ok (l : Launch) (y : MethodName) (bytes : ByteArray) (maxL : Nat) (ret : Option FieldType) (d : Nat) (S : am_Sp) : Prop := ∀ (ad : Nat → Nat) (dC : Nat → ClassId) (dI : Nat → Nat → Nat) (cA : Nat → ClassId) (n : Nat) (xs : Nat → Int32), am_inj ad → ∀ (as : List Value) (D : am_D) (L : am_L) (K : am_K), S as D L K → Met l y (am_ws y bytes maxL ret) (am_rm d) (am_Pc ad dC dI cA n xs as D L) (am_Qc ad dC dI cA n xs K) 0 0 (am_A ad)
/-- a call, wherever it stands in a method of the class own that may go d deep -/
def am_Call (l : Launch) (own : String) (d : Nat) (ins : Instr) (b dd : Nat) (S : am_Sp) : Prop := ∀ (p : Program) (e : Env) (R : Room) (s : State) (m : MethodId) (args : Array Value) (below : List Frame) (meth : Method) (c : Code) (cells slots : Nat) (Q : State → Prop) (cc : ByteArray) (nL : Nat) (ad : Nat → Nat) (dC : Nat → ClassId) (dI : Nat → Nat → Nat) (cA : Nat → ClassId) (n : Nat) (xs : Nat → Int32), d ≤ R.frames → 32 * d ≤ R.locals → cells ≤ R.cells → slots ≤ R.slots → am_inj ad → am_Cx p s m args c own cc nL dC dI cA → am_HC p l e R s m args below meth c cells slots Q cc nL ad dC dI cA n xs ins b dd S
theorem am_blind {ad : Nat → Nat} {dC : Nat → ClassId} {dI : Nat → Nat → Nat} {cA : Nat → ClassId} {n : Nat} {xs : Nat → Int32} {as : List Value} {D : am_D} {L : am_L} : FrameBlind (am_Pc ad dC dI cA n xs as D L) := fun a U g mk q => ⟨q.1, q.2.1, va_K.moved (u := U) (U := U.calling g mk a) (Vm.Alike.refl U.vm) q.2.2.1, am_N_vm (u := U) (U := U.calling g mk a) rfl q.2.2.2⟩
theorem am_pre {s U : State} {ad : Nat → Nat} {dC : Nat → ClassId} {dI : Nat → Nat → Nat} {cA : Nat → ClassId} {n : Nat} {xs : Nat → Int32} {as : List Value} {D : am_D} {L : am_L} {H : Heap} (hR : am_R ad dC dI cA n xs D L H) (hK : va_K (dC, dI) am_cl (am_tys cA) s) (hN : am_N s) (hU : U.heap = H) (hW : s.WarmedH U.vm) : am_Pc ad dC dI cA n xs as D L (as.map (am_c ad)).toArray U := ⟨rfl, by rw [hU]; exact hR, va_K.moved hW.alike hK, am_N_warm hW hN⟩
theorem am_w8_sum (ad : Nat → Nat) : ∀ st : List Value, ((st.map (am_c ad)).map fun v => v.category).sum = am_w8 st
  | [] => rfl
  | v :: t => by
    have ih := am_w8_sum ad t
    simp only [List.map_cons, List.sum_cons, am_c_cat, ih]
    cases v <;> simp [am_w8, Value.category] <;> omega
/-- what comes behind a call -/
theorem am_back {p : Program} {l : Launch} {e : Env} {R : Room} {s : State} {m : MethodId} {args : Array Value} {below : List Frame} {meth : Method} {c : Code} {H : Heap} {locs : List Loc} {cells slots : Nat} {Q : State → Prop} {ad : Nat → Nat} {dC : Nat → ClassId} {dI : Nat → Nat → Nat} {cA : Nat → ClassId} {n : Nat} {xs : Nat → Int32} {K : am_K} {pc : Nat} {rls : Array Slot} {st0 rest : List Value} {a : Array Value}
    (hr : va_Run p l e R s m args below meth c H locs cells slots 0 0 (F0 m pc rls st0) rest (am_Qc ad dC dI cA n xs K a) (am_A ad)) (hS : va_S (am_A ad) s.heap H locs)
    (kk : ∀ (r : Option Value) (D' : am_D) (L' : am_L) (H' : Heap) (locs' : List Loc), K r D' L' → am_R ad dC dI cA n xs D' L' H' → va_S (am_A ad) s.heap H' locs' → W p l e R s m args below meth c H' locs' cells slots Q (F0 m (pc + 3) rls ((r.map (am_c ad)).toList ++ rest))) : W p l e R s m args below meth c H locs cells slots Q (F0 m pc rls st0) := by
  intro T hT X
  obtain ⟨v, st₀, t, T', L, h0, X', hL, e1, e2, ⟨⟨r, D', L', hv, hp, hb⟩, hz, hk⟩, st⟩ := hr T hT X
  cases hv
  rw [h0] at hz hk
  obtain ⟨t2, a1, b1⟩ := kk r D' L' T'.heap (locs ++ L) hp (by rw [e1]; exact hb)
    ⟨Nat.le_trans hS.1 (by rw [e1]; exact hz), fun q h1 h2 => by rw [e1, hk q (Nat.lt_of_lt_of_le h1 hS.1) h2]; exact hS.2.1 q h1 h2, fun q hq => by
      rcases List.mem_append.mp hq with h | h
      · exact hS.2.2 q h
      · exact hL q h⟩ T' rfl X'
  exact ⟨t2, st t2 a1, b1⟩
theorem am_GW {y : MethodName} {bytes : ByteArray} {maxL : Nat} {ret : Option FieldType} (h : Cond.code y bytes maxL ret ∈ am_tbl) : GoodIn am_tbl (am_ws y bytes maxL ret) := by
  intro w hw
  rcases List.mem_cons.mp hw with rfl | hw
  · exact am_goodS _ h
  · exact am_goodS w hw
/-- a call of an instance method, by methodLink -/
theorem am_callV {l : Launch} {own C : String} {d dc dd index nA : Nat} {y : MethodName} {bytes : ByteArray} {maxL : Nat} {ret : Option FieldType} {S : am_Sp} {T : u_T} {N : Nat} (hok : am_Ok l y bytes maxL ret dc S) (hcode : Cond.code y bytes maxL ret ∈ am_tbl) (hl : Cond.methodLink own index y ∈ am_tbl) (hin : Cond.instanceMethod y ∈ am_tbl) (hse : Cond.selects C y y ∈ am_tbl) (hini : Cond.initialized C ∈ am_tbl) (hcl : am_cl[dd]? = some (C, T, N)) (hdd : dd < 12)
    (hd : y.cls = C ∧ y.cls ≠ "java/lang/invoke/MethodHandle" ∧ y.cls ≠ "java/lang/invoke/VarHandle" ∧ (parseMethodDescriptor y.desc).map (fun d => d.parameters.length) = some nA) (hdc : dc + 1 ≤ d) (hml : maxL ≤ 13) : am_Call l own d (.invokevirtual index) (nA + 1) dd S := by
  intro p e R s m args below meth c cells slots Q cc nL ad dC dI cA n xs hR1 hR2 hR3 hR4 hi cx as D L K' H locs pc rls rest hS0 hlen hw8 hrec hR hS hsz hdec kk
  obtain ⟨hx, hb, hml', hown, hts, hK, hN⟩ := cx
  obtain ⟨k, as', rfl, htag⟩ := hrec ⟨_, rfl⟩
  have hk : k < 79 := am_tag_lt (by omega)
  have he : (am_w ad cA D L)[k]? = some (ad k, .inr (dd, am_fs ad (D k) k)) := by rw [am_w_get hk, am_e_ob (by omega), htag]
  have hG : GoodIn am_tbl (wsV own index C y (am_ws y bytes maxL ret)) := by
    intro w hw
    unfold wsV at hw
    simp only [List.cons_append, List.nil_append, List.mem_cons] at hw
    rcases hw with rfl | rfl | rfl | rfl | hw
    · exact am_goodS _ hl
    · exact am_goodS _ hin
    · exact am_goodS _ hse
    · exact am_goodS _ hini
    · exact am_GW hcode w hw
  have cw : CallW R s args own C index y bytes maxL ret (am_ws y bytes maxL ret) (am_rm dc) 0 0 nA := cwV nA hts hG rfl rfl rfl hd ⟨by show dc + 1 ≤ R.frames; omega, by show 8 + (maxL + 11) + 32 * dc ≤ R.locals; omega⟩
  have hst : (List.map (am_c ad) (Value.ref k :: as')).reverse ++ List.map (am_c ad) rest = (as'.map (am_c ad)).reverse ++ .ref (ad k) :: rest.map (am_c ad) := by simp [am_c]
  rw [hst]
  refine am_back (va_runV (As := as'.map (am_c ad)) (rest := rest.map (am_c ad)) ⟨hx, hb, hml', hown, hts⟩ (hok ad dC dI cA n xs hi _ D L K' hS0) cw ⟨am_blind, va_recv hK hR.1 hcl he, fun U hU hW => am_pre hR hK hN hU hW⟩ rfl (by simpa using hlen) hsz rfl ?_ hdec ⟨by omega, by omega⟩) hS kk
  show 2 * 0 + _ ≤ 8
  rw [am_w8_sum]
  omega
/-- a call of a static method, by methodLink -/
theorem am_callS {l : Launch} {own : String} {d dc dd index nA : Nat} {y : MethodName} {bytes : ByteArray} {maxL : Nat} {ret : Option FieldType} {S : am_Sp} (hok : am_Ok l y bytes maxL ret dc S) (hcode : Cond.code y bytes maxL ret ∈ am_tbl) (hl : Cond.methodLink own index y ∈ am_tbl) (hst : Cond.static y ∈ am_tbl) (hini : Cond.initialized y.cls ∈ am_tbl)
    (hd : y.cls ≠ "java/lang/invoke/MethodHandle" ∧ y.cls ≠ "java/lang/invoke/VarHandle" ∧ (parseMethodDescriptor y.desc).map (fun d => d.parameters.length) = some nA) (hdc : dc + 1 ≤ d) (hml : maxL ≤ 13) : am_Call l own d (.invokestatic index) nA dd S := by
  intro p e R s m args below meth c cells slots Q cc nL ad dC dI cA n xs hR1 hR2 hR3 hR4 hi cx as D L K' H locs pc rls rest hS0 hlen hw8 hrec hR hS hsz hdec kk
  obtain ⟨hx, hb, hml', hown, hts, hK, hN⟩ := cx
  have hG : GoodIn am_tbl (va_wsS own index y (am_ws y bytes maxL ret)) := by
    intro w hw
    unfold va_wsS at hw
    simp only [List.cons_append, List.nil_append, List.mem_cons] at hw
    rcases hw with rfl | rfl | rfl | hw
    · exact am_goodS _ hl
    · exact am_goodS _ hst
    · exact am_goodS _ hini
    · exact am_GW hcode w hw
  have cw := va_cwS (R := R) (rm := am_rm dc) (mc := 0) (ms := 0) nA hts hG rfl rfl rfl hd ⟨by show dc + 1 ≤ R.frames; omega, by show 8 + (maxL + 11) + 32 * dc ≤ R.locals; omega⟩
  refine am_back (va_runS (As := as.map (am_c ad)) (rest := rest.map (am_c ad)) ⟨hx, hb, hml', hown, hts⟩ (hok ad dC dI cA n xs hi _ D L K' hS0) cw ⟨am_blind, fun U hU hW => am_pre hR hK hN hU hW⟩ rfl (by simpa using hlen) hsz rfl ?_ hdec ⟨by omega, by omega⟩) hS kk
  show 2 * 0 + _ ≤ 8
  rw [am_w8_sum]
  omega
/-- a call of a nest mate's instance method, by methodLinkNest -/
theorem am_callVN {l : Launch} {own C : String} {d dc dd index nA : Nat} {y : MethodName} {bytes : ByteArray} {maxL : Nat} {ret : Option FieldType} {S : am_Sp} {T : u_T} {N : Nat} (hok : am_Ok l y bytes maxL ret dc S) (hcode : Cond.code y bytes maxL ret ∈ am_tbl) (hl : Cond.methodLinkNest own index y "MilkHorse" ∈ am_nest) (hin : Cond.instanceMethod y ∈ am_tbl) (hse : Cond.selects C y y ∈ am_tbl) (hini : Cond.initialized y.cls ∈ am_tbl) (hcl : am_cl[dd]? = some (C, T, N)) (hdd : dd < 12)
    (hd : y.cls ≠ "java/lang/invoke/MethodHandle" ∧ y.cls ≠ "java/lang/invoke/VarHandle" ∧ (parseMethodDescriptor y.desc).map (fun d => d.parameters.length) = some nA) (hdc : dc + 1 ≤ d) (hml : maxL ≤ 13) : am_Call l own d (.invokevirtual index) (nA + 1) dd S := by
  intro p e R s m args below meth c cells slots Q cc nL ad dC dI cA n xs hR1 hR2 hR3 hR4 hi cx as D L K' H locs pc rls rest hS0 hlen hw8 hrec hR hS hsz hdec kk
  obtain ⟨hx, hb, hml', hown, hts, hK, hN⟩ := cx
  obtain ⟨k, as', rfl, htag⟩ := hrec ⟨_, rfl⟩
  have hk : k < 79 := am_tag_lt (by omega)
  have he : (am_w ad cA D L)[k]? = some (ad k, .inr (dd, am_fs ad (D k) k)) := by rw [am_w_get hk, am_e_ob (by omega), htag]
  have cw := va_cnB (R := R) (rm := am_rm dc) (mc := 0) (ms := 0) nA hts (am_GW hcode) rfl rfl rfl (hN _ hl) (hts _ hini) hd ⟨by show dc + 1 ≤ R.frames; omega, by show 8 + (maxL + 11) + 32 * dc ≤ R.locals; omega⟩
  have hst : (List.map (am_c ad) (Value.ref k :: as')).reverse ++ List.map (am_c ad) rest = (as'.map (am_c ad)).reverse ++ .ref (ad k) :: rest.map (am_c ad) := by simp [am_c]
  rw [hst]
  refine am_back (va_runVN (As := as'.map (am_c ad)) (rest := rest.map (am_c ad)) ⟨hx, hb, hml', hown, hts⟩ (hok ad dC dI cA n xs hi _ D L K' hS0) ⟨cw, hts _ hin, hts _ hse⟩ ⟨am_blind, va_recv hK hR.1 hcl he, fun U hU hW => am_pre hR hK hN hU hW⟩ rfl (by simpa using hlen) hsz rfl ?_ hdec ⟨by omega, by omega⟩) hS kk
  show 2 * 0 + _ ≤ 8
  rw [am_w8_sum]
  omega
/-- a call of a nest mate's static method -/
theorem am_callSN {l : Launch} {own : String} {d dc dd index nA : Nat} {y : MethodName} {bytes : ByteArray} {maxL : Nat} {ret : Option FieldType} {S : am_Sp} (hok : am_Ok l y bytes maxL ret dc S) (hcode : Cond.code y bytes maxL ret ∈ am_tbl) (hl : Cond.methodLinkNest own index y "MilkHorse" ∈ am_nest) (hst : Cond.static y ∈ am_tbl) (hini : Cond.initialized y.cls ∈ am_tbl)
    (hd : y.cls ≠ "java/lang/invoke/MethodHandle" ∧ y.cls ≠ "java/lang/invoke/VarHandle" ∧ (parseMethodDescriptor y.desc).map (fun d => d.parameters.length) = some nA) (hdc : dc + 1 ≤ d) (hml : maxL ≤ 13) : am_Call l own d (.invokestatic index) nA dd S := by
  intro p e R s m args below meth c cells slots Q cc nL ad dC dI cA n xs hR1 hR2 hR3 hR4 hi cx as D L K' H locs pc rls rest hS0 hlen hw8 hrec hR hS hsz hdec kk
  obtain ⟨hx, hb, hml', hown, hts, hK, hN⟩ := cx
  have cw := va_cnB (R := R) (rm := am_rm dc) (mc := 0) (ms := 0) nA hts (am_GW hcode) rfl rfl rfl (hN _ hl) (hts _ hini) hd ⟨by show dc + 1 ≤ R.frames; omega, by show 8 + (maxL + 11) + 32 * dc ≤ R.locals; omega⟩
  refine am_back (va_runSN (As := as.map (am_c ad)) (rest := rest.map (am_c ad)) ⟨hx, hb, hml', hown, hts⟩ (hok ad dC dI cA n xs hi _ D L K' hS0) ⟨cw, hts _ hst, trivial⟩ ⟨am_blind, fun U hU hW => am_pre hR hK hN hU hW⟩ rfl (by simpa using hlen) hsz rfl ?_ hdec ⟨by omega, by omega⟩) hS kk
  show 2 * 0 + _ ≤ 8
  rw [am_w8_sum]
  omega
def am_fit : Nat → List Value → Bool
  | _, [] => true
  | n, .long _ :: t => Nat.ble 2 n && am_fit (n - 2) t
  | _, .double _ :: _ => false
  | n, _ :: t => Nat.ble 1 n && am_fit (n - 1) t
theorem am_fit_ok (ad : Nat → Nat) : ∀ (as : List Value) (n : Nat), am_fit n as = true → (lg_sl (as.map (am_c ad))).length ≤ n ∧ ∀ v ∈ as, ∀ x, v ≠ .double x
  | [], n, _ => ⟨by simp [lg_sl], fun v hv => by cases hv⟩
  | v0 :: t, n, h => by
    have one : v0.category = 1 → (Nat.ble 1 n && am_fit (n - 1) t) = true → (∀ x, v0 ≠ .double x) → (lg_sl ((v0 :: t).map (am_c ad))).length ≤ n ∧ ∀ v ∈ v0 :: t, ∀ x, v ≠ .double x := by
      intro hc h hn
      rw [Bool.and_eq_true] at h
      obtain ⟨a1, a2⟩ := am_fit_ok ad t (n - 1) h.2
      have h1 := Nat.le_of_ble_eq_true h.1
      refine ⟨?_, fun v hv => ?_⟩
      · have : lg_sl ((v0 :: t).map (am_c ad)) = [.val (am_c ad v0)] ++ lg_sl (t.map (am_c ad)) := by
          simp only [lg_sl, List.map_cons, List.flatMap_cons, am_c_cat, hc]; rfl
        rw [this, List.length_append]
        simp only [List.length_cons, List.length_nil]
        omega
      · rcases List.mem_cons.mp hv with rfl | hv
        · exact hn
        · exact a2 v hv
    cases v0 with
    | long x =>
      simp only [am_fit, Bool.and_eq_true] at h
      obtain ⟨a1, a2⟩ := am_fit_ok ad t (n - 2) h.2
      have h1 := Nat.le_of_ble_eq_true h.1
      refine ⟨?_, fun v hv => ?_⟩
      · have : lg_sl ((Value.long x :: t).map (am_c ad)) = [.val (.long x), .second] ++ lg_sl (t.map (am_c ad)) := rfl
        rw [this, List.length_append]
        simp only [List.length_cons, List.length_nil]
        omega
      · rcases List.mem_cons.mp hv with rfl | hv
        · intro y hy; cases hy
        · exact a2 v hv
    | double x => cases h
    | int x => exact one rfl h (fun y hy => by cases hy)
    | float x => exact one rfl h (fun y hy => by cases hy)
    | null => exact one rfl h (fun y hy => by cases hy)
    | ref x => exact one rfl h (fun y hy => by cases hy)
    | retAddr x => exact one rfl h (fun y hy => by cases hy)
theorem am_ret {p : Program} {l : Launch} {e : Env} {R : Room} {s : State} {m : MethodId} {args : Array Value} {below : List Frame} {meth : Method} {c : Code} {cc : ByteArray} {ad : Nat → Nat} {dC : Nat → ClassId} {dI : Nat → Nat → Nat} {cA : Nat → ClassId} {n : Nat} {xs : Nat → Int32} {ret : Option FieldType} {K : am_K} (hx : p.tables.exec = Jvm.exec) (hb : c.code = cc) (hr : meth.sig.returnType = ret) (hlocks : meth.locks = false) : am_HR p l e R s m args below meth c 0 0 (MQ below (am_Qc ad dC dI cA n xs K) args s 0 0 (am_A ad)) cc ad dC dI cA n xs ret K := by
  intro r D L H locs pc rls hK hR hS hcase
  rcases hcase with ⟨hdec, x, rfl, h2⟩ | ⟨hdec, h2, x, rfl⟩ | ⟨hdec, ⟨o, h2⟩, h3⟩ | ⟨hdec, h2, rfl⟩
  · rcases h2 with h2 | ⟨h2, h3⟩
    · exact W.zret (v := x) (ty := .int) hx hb (hr.trans h2) rfl (fun t ht hW => ⟨⟨_, D, L, rfl, hK, by rw [ht]; exact hR⟩, hS.F ht⟩) hS.2.2 hdec hlocks
    · exact W.zret (v := x) (ty := .boolean) hx hb (hr.trans h2) (am_nz h3).1 (fun t ht hW => ⟨⟨_, D, L, rfl, hK, by rw [ht]; exact hR⟩, hS.F ht⟩) hS.2.2 hdec hlocks
  · exact W.lret (v := x) hx hb (hr.trans h2) (fun t ht hW => ⟨⟨_, D, L, rfl, hK, by rw [ht]; exact hR⟩, hS.F ht⟩) hS.2.2 hdec hlocks
  · rcases h3 with rfl | ⟨k, rfl⟩
    · exact W.aret (v := .null) hx hb (hr.trans h2) (Or.inl ⟨o, rfl⟩) (Or.inl rfl) (fun t ht hW => ⟨⟨_, D, L, rfl, hK, by rw [ht]; exact hR⟩, hS.F ht⟩) hS.2.2 hdec hlocks
    · exact W.aret (v := .ref (ad k)) hx hb (hr.trans h2) (Or.inl ⟨o, rfl⟩) (Or.inr ⟨_, rfl⟩) (fun t ht hW => ⟨⟨_, D, L, rfl, hK, by rw [ht]; exact hR⟩, hS.F ht⟩) hS.2.2 hdec hlocks
  · exact W.vret hx hb (hr.trans h2) (fun t ht hW => ⟨⟨_, D, L, rfl, hK, by rw [ht]; exact hR⟩, hS.F ht⟩) hS.2.2 hdec hlocks
/-- A METHOD KEEPS ITS SPEC -/
theorem am_ok_of {l : Launch} {y : MethodName} {bytes : ByteArray} {maxL : Nat} {ret : Option FieldType} {d : Nat} {S : am_Sp} {fl : List (Nat × Nat × Nat × Bool × Bool)} {ki : List (Nat × Int32)} {kl : List (Nat × Int64)} {cs : List (Instr × Nat × Nat)} {C : Nat → Option am_I} {F : Nat → am_Sp}
    (hy : plainName y.cls = true) (hf : ∀ q ∈ fl, am_flok y.cls q) (hki : ∀ q ∈ ki, Cond.constant y.cls q.1 q.2 ∈ am_tbl) (hkl : ∀ q ∈ kl, Cond.constantLong y.cls q.1 q.2 ∈ am_tbl) (hck : ∀ pc, am_ck bytes ret maxL fl ki kl cs pc (C pc) = true) (hC : ∀ (a : Nat) (ins : Instr) (b dd : Nat), cs[a]? = some (ins, b, dd) → am_Call l y.cls d ins b dd (F a))
    (hW : ∀ (as : List Value) (D : am_D) (L : am_L) (K : am_K), S as D L K → am_fit maxL as = true ∧ am_Wp false 0 C F K 0 (am_lo maxL as) [] D L) : am_Ok l y bytes maxL ret d S := by
  intro ad dC dI cA n xs hi as D L K hS
  obtain ⟨hfit, hwp⟩ := hW as D L K hS
  refine Met.ofW (cc := bytes) (maxL := maxL) (ret := ret) (ws' := am_tbl) hy rfl ?_
  intro p e s m args below meth c s₁ B hml hv
  obtain ⟨rfl, hR, hK, hN⟩ := hv
  have hx := B.exec
  have hb := B.bytes
  have hr := B.returns
  have hts0 := atoms_spec (ws := am_ws y bytes maxL ret) B.pre
  have hts : ∀ w ∈ am_tbl, w.before (as.map (am_c ad)).toArray s = true := fun w hw => hts0 w (List.mem_cons_of_mem _ hw)
  have hown : s.vm.findClass y.cls = some m.cls := findClass_of_methodNamed B.named
  have cx : am_Cx p s m (as.map (am_c ad)).toArray c y.cls bytes maxL dC dI cA := ⟨hx, hb, hml, hown, hts, hK, hN⟩
  obtain ⟨f1, f2⟩ := am_fit_ok ad as maxL hfit
  have hl := lv_entry (as.map (am_c ad)) (n := maxL) f1
  have h0 : am_Sd p l e (am_rm d) s m (as.map (am_c ad)).toArray below meth c 0 0 (MQ below (am_Qc ad dC dI cA n xs K) (as.map (am_c ad)).toArray s 0 0 (am_A ad)) maxL ad dC dI cA n xs 0 (am_lo maxL as) [] D L := by
    have hwp' : am_Wp false n C F K 0 (am_lo maxL as) [] D L := am_Wp_n hwp
    exact am_sound cx hi hf hki hkl (fun h => by cases h) (fun a ins b dd h => hC a ins b dd h p e (am_rm d) s m _ below meth c 0 0 _ bytes maxL ad dC dI cA n xs (Nat.le_refl d) (Nat.le_refl (32 * d)) (Nat.le_refl 0) (Nat.le_refl 0) hi cx) (am_ret hx hb hr B.notSynchronized) hck hwp'
  rw [lg_entry_eq]
  exact h0 _ s.heap [] ⟨hl.1, hl.2.1, fun i v hv => hl.2.2 (i, am_c ad v) (by simpa using am_lo_args ad as maxL i 0 v f2 hv)⟩ hR va_S.rf
