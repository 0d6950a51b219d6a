/-! specs that are code; the one native method -/
def am_no : am_Sp := fun _ _ _ _ => False
theorem am_no_mono : am_mono am_no := fun _ _ _ _ _ _ h => h
def am_ini (C : Nat → Option am_I) (F : Nat → am_Sp) (k maxL : Nat) : am_Sp := fun as D L K => match am_fit maxL as with
  | true => am_in C F k (am_lo maxL) as D L K
  | false => False
theorem am_ini_mono {C : Nat → Option am_I} {F : Nat → am_Sp} {k maxL : Nat} (hF : ∀ a, am_mono (F a)) : am_mono (am_ini C F k maxL) := by
  intro as D L K K' hK h
  unfold am_ini at h ⊢
  split at h
  · exact am_in_mono hF k _ as D L K K' hK h
  · exact h
theorem am_ini_Wp {C : Nat → Option am_I} {F : Nat → am_Sp} {k maxL : Nat} (hF : ∀ a, am_mono (F a)) : ∀ (as : List Value) (D : am_D) (L : am_L) (K : am_K), am_ini C F k maxL as D L K → am_fit maxL as = true ∧ am_Wp false 0 C F K 0 (am_lo maxL as) [] D L := by
  intro as D L K h
  unfold am_ini at h
  split at h
  · rename_i e
    exact ⟨e, am_in_Wp hF h⟩
  · exact absurd h id
def am_upA (D : am_D) (t : Nat) (f : Nat → Int32) : am_D := fun q => if q = t then f else D q
def am_copy : am_Sp := fun as D L K => match as with
  | [.ref k, .int sp, .ref t, .int dp, .int n] => (am_tag k = 100 ∧ am_tag t = 100 ∧ ¬ sp < 0 ∧ ¬ dp < 0 ∧ ¬ n < 0 ∧ sp.toNatClampNeg + n.toNatClampNeg ≤ am_len k ∧ dp.toNatClampNeg + n.toNatClampNeg ≤ am_len t) ∧ K none (am_upA D t (va_cpy (D k) (D t) sp.toNatClampNeg dp.toNatClampNeg n.toNatClampNeg)) L
  | _ => False
theorem am_copy_mono : am_mono am_copy := by
  intro as D L K K' hK h
  unfold am_copy at h ⊢
  split at h
  · exact ⟨h.1, hK _ _ _ h.2⟩
  · exact h
theorem am_callCopy {l : Launch} {own : String} {d dd index : Nat} (hl : Cond.methodLink own index arraycopyName ∈ am_tbl) (hnat : Cond.native arraycopyName ∈ am_tbl) (hst : Cond.static arraycopyName ∈ am_tbl) (hini : Cond.initialized "java/lang/System" ∈ am_tbl) (hd : 1 ≤ d) : am_Call l own d (.invokestatic index) 5 dd am_copy := by
  intro p e R s m args below meth c cells slots Q cc nL ad dC dI cA n xs hR1 hR2 hR3 hR4 hi cx as D L K' H locs pc rls rest hS0 hlen hw8 hrec hR hS hsz hdec kk
  obtain ⟨hx, hb, hml', hown, hts, hK, hN⟩ := cx
  unfold am_copy at hS0
  split at hS0
  · rename_i k sp t dp nn
    obtain ⟨⟨h1, h2, h3, h4, h5, h6, h7⟩, h8⟩ := hS0
    have hk : k < 79 := am_tag_lt (by omega)
    have ht : t < 79 := am_tag_lt (by omega)
    refine va_copyi (ty := .int) hx hb (hml'.trans hsz.symm) hown (hts _ hl) (hts _ hnat) (hts _ hst) (hts _ hini) hK hR.1 (am_w_D hi) hS k t 0 0 (by rw [am_w_get hk, am_e_100 h1]) (by rw [am_w_get ht, am_e_100 h2]) rfl rfl rfl h3 h4 h5 h6 h7 (fun _ _ => rfl) (by omega) ?_ hdec (fun H1 locs1 hP1 _ hS1 => kk none _ L H1 locs1 h8 ⟨?_, fun j hj => ?_⟩ hS1)
    · have e5 : nativeFrameWords "java/lang/System" "arraycopy" 5 + 11 ≤ 24 := by decide +kernel
      have e6 := am_w8_sum ad rest
      show ((rest.map (am_c ad)).map fun v => v.category).sum + _ ≤ _
      omega
    · rwa [am_w_set (D' := am_upA D t (va_cpy (D k) (D t) sp.toNatClampNeg dp.toNatClampNeg nn.toNatClampNeg)) (L' := L) (by rw [am_e_100 h2]; simp [am_upA]) (fun q _ hq => by simp [am_upA, hq])] at hP1
    · have : ¬ 79 = t := fun q => Nat.lt_irrefl 79 (Nat.lt_of_le_of_lt (Nat.le_of_eq q) ht)
      simp only [am_upA, if_neg this]
      exact hR.2 j hj
  · exact absurd hS0 id
