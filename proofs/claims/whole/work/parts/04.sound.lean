/-! the abstract machine is the machine: the world, and every step -/
def am_c (ad : Nat → Nat) : Value → Value
  | .ref k => .ref (ad k)
  | v => v
def am_fs (ad : Nat → Nat) (f : Nat → Int32) (k : Nat) : List Value := (List.range (am_nf (am_tag k))).map (fun j => bif am_isr (am_tag k) j then Value.ref (ad (am_rho k j)) else .int (f j))
def am_e (ad : Nat → Nat) (cA : Nat → ClassId) (f : Nat → Int32) (L : am_L) (k : Nat) : va_E :=
  if am_tag k = 100 then .inl (cA 0, am_len k, .inl f)
  else if am_tag k = 101 then .inl (cA 1, am_len k, .inl f)
  else if am_tag k = 102 then .inl (cA 2, am_len k, .inr (.inl L))
  else if am_tag k = 103 then .inl (cA 3, am_len k, .inr (.inr (.inr (.inr (fun i => some (ad (am_rho k i)))))))
  else .inr (am_tag k, am_fs ad f k)
def am_w (ad : Nat → Nat) (cA : Nat → ClassId) (D : am_D) (L : am_L) : va_W := (List.range 79).map (fun k => (ad k, am_e ad cA (D k) L k))
def am_tys (cA : Nat → ClassId) : List (ClassId × FieldType) := [(cA 0, .int), (cA 1, .boolean), (cA 2, .long), (cA 3, .object "MilkHorse$Sheet")]
def am_A (ad : Nat → Nat) : Nat → Prop := fun q => ∃ k, k < 79 ∧ q = ad k
def am_inj (ad : Nat → Nat) : Prop := ∀ i j, i < 79 → j < 79 → ad i = ad j → i = j
def am_R (ad : Nat → Nat) (dC : Nat → ClassId) (dI : Nat → Nat → Nat) (cA : Nat → ClassId) (n : Nat) (xs : Nat → Int32) (D : am_D) (L : am_L) (H : Heap) : Prop := va_P (dC, dI) am_cl (am_w ad cA D L) H ∧ ∀ j, j < n → D 79 j = xs j
theorem am_w_get {ad : Nat → Nat} {cA : Nat → ClassId} {D : am_D} {L : am_L} {k : Nat} (h : k < 79) : (am_w ad cA D L)[k]? = some (ad k, am_e ad cA (D k) L k) := by
  simp [am_w, h]
theorem am_w_at {ad : Nat → Nat} {cA : Nat → ClassId} {D : am_D} {L : am_L} {k : Nat} {q : Nat × va_E} (h : (am_w ad cA D L)[k]? = some q) : k < 79 ∧ q = (ad k, am_e ad cA (D k) L k) := by
  have hk : k < 79 := by
    have := (List.getElem?_eq_some_iff.mp h).1
    simpa [am_w] using this
  rw [am_w_get hk] at h
  exact ⟨hk, (Option.some.inj h).symm⟩
theorem am_w_set {ad : Nat → Nat} {cA : Nat → ClassId} {D D' : am_D} {L L' : am_L} {k : Nat} {e : va_E} (he : e = am_e ad cA (D' k) L' k) (ho : ∀ q, q < 79 → q ≠ k → am_e ad cA (D q) L q = am_e ad cA (D' q) L' q) : (am_w ad cA D L).set k (ad k, e) = am_w ad cA D' L' := by
  apply List.ext_getElem?
  intro i
  by_cases hi : i < 79
  · rw [am_w_get hi, List.getElem?_set]
    by_cases hik : k = i
    · subst hik
      simp [am_w, hi, he]
    · rw [if_neg hik, am_w_get hi, ho i hi (fun q => hik q.symm)]
  · rw [List.getElem?_eq_none (by simp [am_w]; omega), List.getElem?_eq_none (by simp [am_w]; omega)]
theorem am_w_D {ad : Nat → Nat} {cA : Nat → ClassId} {D : am_D} {L : am_L} (hi : am_inj ad) : va_D (am_A ad) (am_w ad cA D L) := by
  refine ⟨fun i j p q h1 h2 h3 => ?_, fun k q h => ?_⟩
  · obtain ⟨a1, rfl⟩ := am_w_at h1
    obtain ⟨a2, rfl⟩ := am_w_at h2
    exact hi i j a1 a2 h3
  · obtain ⟨a1, rfl⟩ := am_w_at h
    exact ⟨k, a1, rfl⟩
theorem am_tag_lt {k : Nat} (h : am_tag k ≠ 999) : k < 79 := by
  rcases Nat.lt_or_ge k 79 with q | q
  · exact q
  · refine absurd ?_ h
    unfold am_tag
    rw [List.getD_eq_getElem?_getD, List.getElem?_eq_none (by simpa [am_tags] using q)]
    rfl
theorem am_up_ne {D : am_D} {k j q : Nat} {v : Int32} (h : q ≠ k) : am_up D k j v q = D q := by simp [am_up, h]
theorem am_up_eq {D : am_D} {k j : Nat} {v : Int32} : am_up D k j v k = upd (D k) j v := by simp [am_up]
theorem am_fs_set {ad : Nat → Nat} {f : Nat → Int32} {k j : Nat} {v : Int32} (h : am_isr (am_tag k) j = false) : (am_fs ad f k).set j (.int v) = am_fs ad (upd f j v) k := by
  apply List.ext_getElem?
  intro i
  by_cases hi : i < am_nf (am_tag k)
  · rw [List.getElem?_set]
    by_cases hij : j = i
    · subst hij
      simp [am_fs, hi, h, upd]
    · rw [if_neg hij]
      have : ¬ i = j := fun q => hij q.symm
      simp [am_fs, hi, upd, this]
  · rw [List.getElem?_eq_none (by simp [am_fs]; omega), List.getElem?_eq_none (by simp [am_fs]; omega)]
theorem am_R_put {ad : Nat → Nat} {dC : Nat → ClassId} {dI : Nat → Nat → Nat} {cA : Nat → ClassId} {n : Nat} {xs : Nat → Int32} {D : am_D} {L : am_L} {H : Heap} {k : Nat} {e : va_E} {j : Nat} {v : Int32} (hk : k < 79) (he : e = am_e ad cA (upd (D k) j v) L k) (hx : ∀ j, j < n → D 79 j = xs j) (h : va_P (dC, dI) am_cl ((am_w ad cA D L).set k (ad k, e)) H) : am_R ad dC dI cA n xs (am_up D k j v) L H := by
  refine ⟨?_, fun i hi => by rw [am_up_ne (by omega)]; exact hx i hi⟩
  rwa [am_w_set (D' := am_up D k j v) (L' := L) (by rw [am_up_eq]; exact he) (fun q _ hq => by rw [am_up_ne hq])] at h
theorem am_e_100 {ad : Nat → Nat} {cA : Nat → ClassId} {f : Nat → Int32} {L : am_L} {k : Nat} (h : am_tag k = 100) : am_e ad cA f L k = .inl (cA 0, am_len k, .inl f) := by simp [am_e, h]
theorem am_e_101 {ad : Nat → Nat} {cA : Nat → ClassId} {f : Nat → Int32} {L : am_L} {k : Nat} (h : am_tag k = 101) : am_e ad cA f L k = .inl (cA 1, am_len k, .inl f) := by simp [am_e, h]
theorem am_e_102 {ad : Nat → Nat} {cA : Nat → ClassId} {f : Nat → Int32} {L : am_L} {k : Nat} (h : am_tag k = 102) : am_e ad cA f L k = .inl (cA 2, am_len k, .inr (.inl L)) := by simp [am_e, h]
theorem am_e_103 {ad : Nat → Nat} {cA : Nat → ClassId} {f : Nat → Int32} {L : am_L} {k : Nat} (h : am_tag k = 103) : am_e ad cA f L k = .inl (cA 3, am_len k, .inr (.inr (.inr (.inr (fun i => some (ad (am_rho k i))))))) := by simp [am_e, h]
theorem am_e_ob {ad : Nat → Nat} {cA : Nat → ClassId} {f : Nat → Int32} {L : am_L} {k : Nat} (h : am_tag k < 100) : am_e ad cA f L k = .inr (am_tag k, am_fs ad f k) := by
  unfold am_e
  rw [if_neg (by omega), if_neg (by omega), if_neg (by omega), if_neg (by omega)]
/-- the locals -/
def am_lv (ad : Nat → Nat) (ls : am_V) (rls : Array Slot) (nL : Nat) : Prop := rls.size = nL ∧ lv_wf rls ∧ ∀ (i : Nat) (v : Value), am_gl ls i = some v → rls[i]? = some (.val (am_c ad v))
def am_ents (ad : Nat → Nat) (ls : am_V) (nL : Nat) : List (Nat × Value) := (List.range nL).filterMap (fun i => (am_gl ls i).map (fun v => (i, am_c ad v)))
theorem am_lv_has {ad : Nat → Nat} {ls : am_V} {rls : Array Slot} {nL : Nat} (h : am_lv ad ls rls nL) : lv_has rls nL (am_ents ad ls nL) := by
  refine ⟨h.1, h.2.1, fun q hq => ?_⟩
  obtain ⟨i, -, hi⟩ := List.mem_filterMap.mp hq
  cases hv : am_gl ls i with
  | none => rw [hv] at hi; cases hi
  | some v =>
    rw [hv] at hi
    cases hi
    exact h.2.2 i v hv
theorem am_ents_mem {ad : Nat → Nat} {ls : am_V} {rls : Array Slot} {nL i : Nat} {v : Value} (h : am_lv ad ls rls nL) (hi : am_gl ls i = some v) : (i, am_c ad v) ∈ am_ents ad ls nL := by
  refine List.mem_filterMap.mpr ⟨i, ?_, by rw [hi]; rfl⟩
  have := h.2.2 i v hi
  rw [List.mem_range, ← h.1]
  exact lv_lt this
theorem am_c_cat (ad : Nat → Nat) (v : Value) : (am_c ad v).category = v.category := by cases v <;> rfl
theorem am_lv1 {ad : Nat → Nat} {ls ls' : am_V} {rls rls' : Array Slot} {nL i : Nat} {v : Value} (h : am_lv ad ls rls nL) (hh : lv_has rls' nL ((i, am_c ad v) :: (am_ents ad ls nL).filter (fun q => !(q.1 == i) && !(q.1 + 1 == i && q.2.category == 2))))
    (h3 : ∀ (j : Nat) (v' : Value), am_gl ls' j = some v' → (j = i ∧ v' = v) ∨ (j ≠ i ∧ am_gl ls j = some v' ∧ ¬ (j + 1 = i ∧ v'.category = 2))) : am_lv ad ls' rls' nL := by
  refine ⟨hh.1, hh.2.1, fun j v' hj => ?_⟩
  rcases h3 j v' hj with ⟨rfl, rfl⟩ | ⟨q1, q2, q3⟩
  · exact hh.2.2 (j, _) List.mem_cons_self
  · refine hh.2.2 (j, am_c ad v') (List.mem_cons_of_mem _ (List.mem_filter.mpr ⟨am_ents_mem h q2, ?_⟩))
    simp only [am_c_cat]
    simp [q1]
    by_cases z : j + 1 = i
    · exact Or.inr (fun q => q3 ⟨z, q⟩)
    · exact Or.inl z
theorem am_lv2 {ad : Nat → Nat} {ls ls' : am_V} {rls rls' : Array Slot} {nL i : Nat} {v : Value} (h : am_lv ad ls rls nL) (hh : lv_has rls' nL ((i, am_c ad v) :: (am_ents ad ls nL).filter (fun q => !(q.1 == i) && (!(q.1 == i + 1) && !(q.1 + 1 == i && q.2.category == 2)))))
    (h3 : ∀ (j : Nat) (v' : Value), am_gl ls' j = some v' → (j = i ∧ v' = v) ∨ (j ≠ i ∧ j ≠ i + 1 ∧ am_gl ls j = some v' ∧ ¬ (j + 1 = i ∧ v'.category = 2))) : am_lv ad ls' rls' nL := by
  refine ⟨hh.1, hh.2.1, fun j v' hj => ?_⟩
  rcases h3 j v' hj with ⟨rfl, rfl⟩ | ⟨q1, q1', q2, q3⟩
  · exact hh.2.2 (j, _) List.mem_cons_self
  · refine hh.2.2 (j, am_c ad v') (List.mem_cons_of_mem _ (List.mem_filter.mpr ⟨am_ents_mem h q2, ?_⟩))
    simp only [am_c_cat]
    simp [q1, q1']
    by_cases z : j + 1 = i
    · exact Or.inr (fun q => q3 ⟨z, q⟩)
    · exact Or.inl z
/-- the static side: what the decoded instruction says, and the numbers beside it -/
def am_co (ret : Option FieldType) (nL : Nat) (fl : List (Nat × Nat × Nat × Bool × Bool)) (ki : List (Nat × Int32)) (kl : List (Nat × Int64)) (cs : List (Instr × Nat × Nat)) (pc : Nat) (ins : Instr) (nx a b d : Nat) (v : Int32) (w : Int64) : Bool := match ins with
  | .iconst i => decide (nx = pc + 1) && decide (Int32.ofInt i = v)
  | .bipush i => decide (nx = pc + 2) && decide ((Int8.ofInt i).toInt32 = v)
  | .sipush i => decide (nx = pc + 3) && decide ((Int16.ofInt i).toInt32 = v)
  | .ldc i => decide (nx = pc + 2) && decide ((i, v) ∈ ki)
  | .ldc_w i => decide (nx = pc + 3) && decide ((i, v) ∈ ki)
  | .lconst i => decide (nx = pc + 1) && decide (Int64.ofNat (i : Nat) = w)
  | .ldc2_w i => decide (nx = pc + 3) && decide ((i, w) ∈ kl)
  | .iload i => decide (nx = pc + 2) && decide (i = a)
  | .iload_n i => decide (nx = pc + 1) && decide ((i : Nat) = a)
  | .lload i => decide (nx = pc + 2) && decide (i = a)
  | .lload_n i => decide (nx = pc + 1) && decide ((i : Nat) = a)
  | .aload i => decide (nx = pc + 2) && decide (i = a)
  | .aload_n i => decide (nx = pc + 1) && decide ((i : Nat) = a)
  | .istore i => decide (nx = pc + 2) && (decide (i = a) && decide (a < nL))
  | .istore_n i => decide (nx = pc + 1) && (decide ((i : Nat) = a) && decide (a < nL))
  | .lstore i => decide (nx = pc + 2) && (decide (i = a) && decide (a + 1 < nL))
  | .lstore_n i => decide (nx = pc + 1) && (decide ((i : Nat) = a) && decide (a + 1 < nL))
  | .astore i => decide (nx = pc + 2) && (decide (i = a) && decide (a < nL))
  | .astore_n i => decide (nx = pc + 1) && (decide ((i : Nat) = a) && decide (a < nL))
  | .iinc i k => decide (nx = pc + 3) && (decide (i = a) && (decide (Int32.ofInt k = v) && decide (a < nL)))
  | .goto o => decide ((pc : Int) + o = (a : Int)) && decide (nx = pc + 3)
  | .if_icmp _ o => decide ((pc : Int) + o = (a : Int)) && decide (nx = pc + 3)
  | .ifCond _ o => decide ((pc : Int) + o = (a : Int)) && decide (nx = pc + 3)
  | .ifnull o => decide ((pc : Int) + o = (a : Int)) && decide (nx = pc + 3)
  | .ifnonnull o => decide ((pc : Int) + o = (a : Int)) && decide (nx = pc + 3)
  | .tableswitch df lo hi offs => decide ((pc : Int) + df = (a : Int)) && (decide (hi - lo + 1 = offs.size) && offs.all (fun o => decide (0 ≤ (pc : Int) + o)))
  | .getfield i => decide (nx = pc + 3) && (fl.any (fun q => decide (q.1 = i) && (decide (q.2.1 = b) && decide (q.2.2.1 = a))) && (decide (b < 12) && decide (d = (if am_isr b a = true then 1 else 0))))
  | .putfield i => decide (nx = pc + 3) && (fl.any (fun q => decide (q.1 = i) && (decide (q.2.1 = b) && (decide (q.2.2.1 = a) && q.2.2.2.2))) && (decide (b < 12) && decide (d = (if am_isz b a = true then 1 else 0))))
  | .invokevirtual i => decide (nx = pc + 3) && (decide (cs[a]? = some (.invokevirtual i, b, d)) && decide (d < 12))
  | .invokestatic i => decide (nx = pc + 3) && decide (cs[a]? = some (.invokestatic i, b, d))
  | .ireturn => decide (nx = pc + 1) && ((decide (b = 0) && decide (ret = some .int)) || (decide (b = 1) && decide (ret = some .boolean)))
  | .lreturn => decide (nx = pc + 1) && decide (ret = some .long)
  | .areturn => decide (nx = pc + 1) && (match ret with
    | some (.object _) => true
    | _ => false)
  | .return_ => decide (nx = pc + 1) && decide (ret = none)
  | _ => decide (nx = pc + 1)
def am_ck (cc : ByteArray) (ret : Option FieldType) (nL : Nat) (fl : List (Nat × Nat × Nat × Bool × Bool)) (ki : List (Nat × Int32)) (kl : List (Nat × Int64)) (cs : List (Instr × Nat × Nat)) (pc : Nat) (q : Option am_I) : Bool := match q with
  | none => true
  | some (ins, nx, a, b, d, v, w) => decide (decode cc pc = .ok (ins, nx - pc)) && am_co ret nL fl ki kl cs pc ins nx a b d v w
/-- a class's own links: of fields (entry, class, place, of a nest mate, also put), of numbers -/
def am_flok (own : String) (q : Nat × Nat × Nat × Bool × Bool) : Prop := ∃ r : vw_C, am_cl[q.2.1]? = some r ∧ r.2.2 = am_nf q.2.1 ∧ q.2.2.1 < r.2.2 ∧ (r.2.1 q.2.2.1).1 = r.1 ∧
  ((q.2.2.2.1 = false ∧ Cond.fieldLink own q.1 r.1 (r.2.1 q.2.2.1).2.1 (r.2.1 q.2.2.1).2.2.1 ∈ am_tbl) ∨ (q.2.2.2.1 = true ∧ Cond.fieldLinkNest own q.1 r.1 (r.2.1 q.2.2.1).2.1 (r.2.1 q.2.2.1).2.2.1 "MilkHorse" ∈ am_nest)) ∧
  (q.2.2.2.2 = true → (r.2.1 q.2.2.1).2.2.2 = false ∧ am_isr q.2.1 q.2.2.1 = false ∧ parseFieldDescriptor (r.2.1 q.2.2.1).2.2.1 = some (if am_isz q.2.1 q.2.2.1 = true then .boolean else .int))
theorem am_cls {c : Nat} {r : vw_C} (h : am_cl[c]? = some r) : (∀ w ∈ u_ws r.1 r.2.1 r.2.2, w ∈ am_tbl) ∧ (∃ ty0 : Nat → FieldType, ∀ k, k < r.2.2 → parseFieldDescriptor (r.2.1 k).2.2.1 = some (ty0 k)) ∧ ∀ a, a < r.2.2 → ∀ b, b < r.2.2 → a ≠ b → (r.2.1 a).2.1 ≠ (r.2.1 b).2.1 := by
  match c, h with
  | 0, h => cases h; exact ⟨ig_0, ⟨t_0, t_0_ok⟩, n_0⟩
  | 1, h => cases h; exact ⟨ig_1, ⟨t_1, t_1_ok⟩, n_1⟩
  | 2, h => cases h; exact ⟨ig_2, ⟨t_2, t_2_ok⟩, n_2⟩
  | 3, h => cases h; exact ⟨ig_3, ⟨t_3, t_3_ok⟩, n_3⟩
  | 4, h => cases h; exact ⟨ig_4, ⟨t_4, t_4_ok⟩, n_4⟩
  | 5, h => cases h; exact ⟨ig_5, ⟨t_5, t_5_ok⟩, n_5⟩
  | 6, h => cases h; exact ⟨ig_6, ⟨t_6, t_6_ok⟩, n_6⟩
  | 7, h => cases h; exact ⟨ig_7, ⟨t_7, t_7_ok⟩, n_7⟩
  | 8, h => cases h; exact ⟨ig_8, ⟨t_8, t_8_ok⟩, n_8⟩
  | 9, h => cases h; exact ⟨ig_9, ⟨t_9, t_9_ok⟩, n_9⟩
  | 10, h => cases h; exact ⟨ig_10, ⟨t_10, t_10_ok⟩, n_10⟩
  | 11, h => cases h; exact ⟨ig_11, ⟨t_11, t_11_ok⟩, n_11⟩
  | c + 12, h => simp [am_cl] at h
def am_Cx (p : Program) (s : State) (m : MethodId) (args : Array Value) (c : Code) (own : String) (cc : ByteArray) (nL : Nat) (dC : Nat → ClassId) (dI : Nat → Nat → Nat) (cA : Nat → ClassId) : Prop :=
  p.tables.exec = Jvm.exec ∧ c.code = cc ∧ c.maxLocals = nL ∧ s.vm.findClass own = some m.cls ∧ (∀ w ∈ am_tbl, w.before args s = true) ∧ va_K (dC, dI) am_cl (am_tys cA) s ∧ am_N s
def am_Sd (p : Program) (l : Launch) (e : Env) (R : Room) (s : State) (m : MethodId) (args : Array Value) (below : List Frame) (meth : Method) (c : Code) (cells slots : Nat) (Q : State → Prop) (nL : Nat) (ad : Nat → Nat) (dC : Nat → ClassId) (dI : Nat → Nat → Nat) (cA : Nat → ClassId) (n : Nat) (xs : Nat → Int32) : am_X := fun pc ls st D L =>
  ∀ (rls : Array Slot) (H : Heap) (locs : List Loc), am_lv ad ls rls nL → am_R ad dC dI cA n xs D L H → va_S (am_A ad) s.heap H locs → W p l e R s m args below meth c H locs cells slots Q (F0 m pc rls (st.map (am_c ad)))
