/-! the abstract machine's rules: monotone, unfolding, blocks -/
def am_mono (S : am_Sp) : Prop := ∀ (as : List Value) (D : am_D) (L : am_L) (K K' : am_K), (∀ r D L, K r D L → K' r D L) → S as D L K → S as D L K'
theorem am_s1_ex : ∀ (ls : am_V) (i : Nat) (v : Value) (k : am_V → Prop), am_s1 ls i v k → ∃ ls' : am_V, k ls' ∧ (∀ k' : am_V → Prop, k' ls' → am_s1 ls i v k') ∧ ∀ (j : Nat) (v' : Value), am_gl ls' j = some v' → (j = i ∧ v' = v) ∨ (j ≠ i ∧ am_gl ls j = some v' ∧ ¬ (j + 1 = i ∧ v'.category = 2))
  | [], _, _, _, h => absurd h id
  | b :: t, 0, v, k, h => by
    simp only [am_s1] at h
    refine ⟨_, h, fun k' h' => by simpa only [am_s1] using h', fun j v' hj => ?_⟩
    cases j with
    | zero => simp only [am_gl, Option.some.injEq] at hj; exact Or.inl ⟨rfl, hj.symm⟩
    | succ j => exact Or.inr ⟨by omega, hj, by omega⟩
  | a :: t, 0 + 1, v, k, h => by
    simp only [am_s1] at h
    split at h
    · rename_i x
      obtain ⟨l, h1, h2, h3⟩ := am_s1_ex t 0 v _ h
      refine ⟨_, h1, fun k' h' => by simp only [am_s1]; exact h2 _ h', fun j v' hj => ?_⟩
      cases j with
      | zero => simp [am_gl] at hj
      | succ j =>
        rcases h3 j v' hj with ⟨q1, q2⟩ | ⟨q1, q2, q3⟩
        · exact Or.inl ⟨by omega, q2⟩
        · exact Or.inr ⟨by omega, q2, by omega⟩
    · rename_i x
      obtain ⟨l, h1, h2, h3⟩ := am_s1_ex t 0 v _ h
      refine ⟨_, h1, fun k' h' => by simp only [am_s1]; exact h2 _ h', fun j v' hj => ?_⟩
      cases j with
      | zero => simp [am_gl] at hj
      | succ j =>
        rcases h3 j v' hj with ⟨q1, q2⟩ | ⟨q1, q2, q3⟩
        · exact Or.inl ⟨by omega, q2⟩
        · exact Or.inr ⟨by omega, q2, by omega⟩
    · rename_i n1 n2
      obtain ⟨l, h1, h2, h3⟩ := am_s1_ex t 0 v _ h
      refine ⟨_, h1, fun k' h' => ?_, fun j v' hj => ?_⟩
      · simp only [am_s1]
        exact h2 _ h'
      · cases j with
        | zero =>
          simp only [am_gl] at hj
          refine Or.inr ⟨by omega, hj, fun q => ?_⟩
          subst hj
          cases v' <;> simp_all [Value.category]
        | succ j =>
          rcases h3 j v' hj with ⟨q1, q2⟩ | ⟨q1, q2, q3⟩
          · exact Or.inl ⟨by omega, q2⟩
          · exact Or.inr ⟨by omega, q2, by omega⟩
  | a :: t, (n + 1) + 1, v, k, h => by
    simp only [am_s1] at h
    obtain ⟨l, h1, h2, h3⟩ := am_s1_ex t (n + 1) v _ h
    refine ⟨_, h1, fun k' h' => by simp only [am_s1]; exact h2 _ h', fun j v' hj => ?_⟩
    cases j with
    | zero => simp only [am_gl] at hj; exact Or.inr ⟨by omega, hj, by omega⟩
    | succ j =>
      rcases h3 j v' hj with ⟨q1, q2⟩ | ⟨q1, q2, q3⟩
      · exact Or.inl ⟨by omega, q2⟩
      · exact Or.inr ⟨by omega, q2, by omega⟩
theorem am_s2_ex : ∀ (ls : am_V) (i : Nat) (v : Value) (k : am_V → Prop), am_s2 ls i v k → ∃ ls' : am_V, k ls' ∧ (∀ k' : am_V → Prop, k' ls' → am_s2 ls i v k') ∧ ∀ (j : Nat) (v' : Value), am_gl ls' j = some v' → (j = i ∧ v' = v) ∨ (j ≠ i ∧ j ≠ i + 1 ∧ am_gl ls j = some v' ∧ ¬ (j + 1 = i ∧ v'.category = 2))
  | [], _, _, _, h => absurd h id
  | b :: [], 0, v, k, h => absurd h id
  | b :: b2 :: t, 0, v, k, h => by
    simp only [am_s2] at h
    refine ⟨_, h, fun k' h' => by simpa only [am_s2] using h', fun j v' hj => ?_⟩
    match j, hj with
    | 0, hj => simp only [am_gl, Option.some.injEq] at hj; exact Or.inl ⟨rfl, hj.symm⟩
    | 1, hj => simp [am_gl] at hj
    | j + 2, hj => exact Or.inr ⟨by omega, by omega, hj, by omega⟩
  | a :: t, 0 + 1, v, k, h => by
    simp only [am_s2] at h
    split at h
    · rename_i x
      obtain ⟨l, h1, h2, h3⟩ := am_s2_ex t 0 v _ h
      refine ⟨_, h1, fun k' h' => by simp only [am_s2]; exact h2 _ h', fun j v' hj => ?_⟩
      cases j with
      | zero => simp [am_gl] at hj
      | succ j =>
        rcases h3 j v' hj with ⟨q1, q2⟩ | ⟨q1, q1', q2, q3⟩
        · exact Or.inl ⟨by omega, q2⟩
        · exact Or.inr ⟨by omega, by omega, q2, by omega⟩
    · rename_i x
      obtain ⟨l, h1, h2, h3⟩ := am_s2_ex t 0 v _ h
      refine ⟨_, h1, fun k' h' => by simp only [am_s2]; exact h2 _ h', fun j v' hj => ?_⟩
      cases j with
      | zero => simp [am_gl] at hj
      | succ j =>
        rcases h3 j v' hj with ⟨q1, q2⟩ | ⟨q1, q1', q2, q3⟩
        · exact Or.inl ⟨by omega, q2⟩
        · exact Or.inr ⟨by omega, by omega, q2, by omega⟩
    · rename_i n1 n2
      obtain ⟨l, h1, h2, h3⟩ := am_s2_ex t 0 v _ h
      refine ⟨_, h1, fun k' h' => ?_, fun j v' hj => ?_⟩
      · simp only [am_s2]
        exact h2 _ h'
      · cases j with
        | zero =>
          simp only [am_gl] at hj
          refine Or.inr ⟨by omega, by omega, hj, fun q => ?_⟩
          subst hj
          cases v' <;> simp_all [Value.category]
        | succ j =>
          rcases h3 j v' hj with ⟨q1, q2⟩ | ⟨q1, q1', q2, q3⟩
          · exact Or.inl ⟨by omega, q2⟩
          · exact Or.inr ⟨by omega, by omega, q2, by omega⟩
  | a :: t, (n + 1) + 1, v, k, h => by
    simp only [am_s2] at h
    obtain ⟨l, h1, h2, h3⟩ := am_s2_ex t (n + 1) v _ h
    refine ⟨_, h1, fun k' h' => by simp only [am_s2]; exact h2 _ h', fun j v' hj => ?_⟩
    cases j with
    | zero => simp only [am_gl] at hj; exact Or.inr ⟨by omega, by omega, hj, by omega⟩
    | succ j =>
      rcases h3 j v' hj with ⟨q1, q2⟩ | ⟨q1, q1', q2, q3⟩
      · exact Or.inl ⟨by omega, q2⟩
      · exact Or.inr ⟨by omega, by omega, q2, by omega⟩
theorem am_s1_mono {ls : am_V} {i : Nat} {v : Value} {k k' : am_V → Prop} (hk : ∀ l, k l → k' l) (h : am_s1 ls i v k) : am_s1 ls i v k' := by
  obtain ⟨l, h1, h2, -⟩ := am_s1_ex ls i v k h
  exact h2 _ (hk _ h1)
theorem am_s2_mono {ls : am_V} {i : Nat} {v : Value} {k k' : am_V → Prop} (hk : ∀ l, k l → k' l) (h : am_s2 ls i v k) : am_s2 ls i v k' := by
  obtain ⟨l, h1, h2, -⟩ := am_s2_ex ls i v k h
  exact h2 _ (hk _ h1)
theorem am_pop_ex : ∀ (b : Nat) (st acc : List Value) (k : List Value → List Value → Prop), am_pop b st acc k → ∃ as r, k (as ++ acc) r ∧ st = as.reverse ++ r ∧ as.length = b ∧ ∀ k' : List Value → List Value → Prop, k' (as ++ acc) r → am_pop b st acc k'
  | 0, st, acc, k, h => ⟨[], st, h, rfl, rfl, fun _ h' => h'⟩
  | n + 1, [], acc, k, h => absurd h id
  | n + 1, v :: st, acc, k, h => by
    obtain ⟨as, r, h1, h2, h3, h4⟩ := am_pop_ex n st (v :: acc) k h
    refine ⟨as ++ [v], r, by simpa using h1, by simp [h2], by simp [h3], fun k' h' => h4 _ (by simpa using h')⟩
theorem am_nth_ex {α : Type} : ∀ (l : List α) (n : Nat) (c : α → Prop), am_nth l n c → ∃ x, l[n]? = some x ∧ c x
  | [], _, _, h => absurd h id
  | x :: _, 0, _, h => ⟨x, rfl, h⟩
  | _ :: t, n + 1, c, h => am_nth_ex t n c h
theorem am_nth_mono {α : Type} : ∀ {l : List α} {n : Nat} {c c' : α → Prop}, (∀ x, c x → c' x) → am_nth l n c → am_nth l n c'
  | [], _, _, _, _, h => h
  | x :: _, 0, _, _, hc, h => hc x h
  | _ :: t, n + 1, _, _, hc, h => am_nth_mono (l := t) hc h
section MO
variable {lw : Bool} {n : Nat} {F : Nat → am_Sp} {K K' : am_K} {pc : Nat} {ins : Instr} {nx a b d : Nat} {v : Int32} {w : Int64} {ls : am_V} {st : List Value} {D : am_D} {L : am_L} {X X' : am_X}
theorem am_sE_mono (hF : ∀ a, am_mono (F a)) (hK : ∀ r D L, K r D L → K' r D L) (hX : ∀ pc ls st D L, X pc ls st D L → X' pc ls st D L) (h : am_sE F K ins nx a b d ls st D L X) : am_sE F K' ins nx a b d ls st D L X' := by
  unfold am_sE at h ⊢
  split at h
  · obtain ⟨as, r, h1, -, -, h4⟩ := am_pop_ex _ _ _ _ h
    refine h4 _ ?_
    split at h1
    · rename_i k as' e
      split at h1
      · split at h1
        · refine hF _ _ _ _ _ _ (fun r D L hq => ?_) h1
          cases r with
          | none => exact hX _ _ _ _ _ hq
          | some v => exact hX _ _ _ _ _ hq
        · exact h1
      · exact h1
    · exact absurd h1 id
  · obtain ⟨as, r, h1, -, -, h4⟩ := am_pop_ex _ _ _ _ h
    refine h4 _ ?_
    split at h1
    · refine hF _ _ _ _ _ _ (fun r D L hq => ?_) h1
      cases r with
      | none => exact hX _ _ _ _ _ hq
      | some v => exact hX _ _ _ _ _ hq
    · exact h1
  · split at h
    · split at h
      · exact hK _ _ _ h
      · exact ⟨h.1, hK _ _ _ h.2⟩
    · exact absurd h id
  · split at h
    · exact hK _ _ _ h
    · exact absurd h id
  · split at h
    · exact hK _ _ _ h
    · exact hK _ _ _ h
    · exact absurd h id
  · split at h
    · exact hK _ _ _ h
    · exact absurd h id
  · exact absurd h id
theorem am_sD_mono (hF : ∀ a, am_mono (F a)) (hK : ∀ r D L, K r D L → K' r D L) (hX : ∀ pc ls st D L, X pc ls st D L → X' pc ls st D L) (h : am_sD lw n F K ins nx a b d v ls st D L X) : am_sD lw n F K' ins nx a b d v ls st D L X' := by
  unfold am_sD at h ⊢
  split at h
  all_goals first
    | exact am_sE_mono hF hK hX h
    | (repeat' split at h
       all_goals first
         | exact absurd h id
         | exact hX _ _ _ _ _ h
         | exact ⟨h.1, hX _ _ _ _ _ h.2⟩
         | exact ⟨h.1, h.2.1, hX _ _ _ _ _ h.2.2⟩
         | exact am_nth_mono (fun _ q => am_nth_mono (fun _ q => hX _ _ _ _ _ q) q) h)
theorem am_sC_mono (hF : ∀ a, am_mono (F a)) (hK : ∀ r D L, K r D L → K' r D L) (hX : ∀ pc ls st D L, X pc ls st D L → X' pc ls st D L) (h : am_sC lw n F K pc ins nx a b d v ls st D L X) : am_sC lw n F K' pc ins nx a b d v ls st D L X' := by
  unfold am_sC at h ⊢
  split at h
  all_goals first
    | exact am_sD_mono hF hK hX h
    | (repeat' split at h
       all_goals first
         | exact absurd h id
         | exact hX _ _ _ _ _ h
         | exact ⟨fun q => hX _ _ _ _ _ (h.1 q), fun q => hX _ _ _ _ _ (h.2 q)⟩
         | exact ⟨fun i o q1 q2 => hX _ _ _ _ _ (h.1 i o q1 q2), fun q => hX _ _ _ _ _ (h.2 q)⟩)
theorem am_sB_mono (hF : ∀ a, am_mono (F a)) (hK : ∀ r D L, K r D L → K' r D L) (hX : ∀ pc ls st D L, X pc ls st D L → X' pc ls st D L) (h : am_sB lw n F K pc ins nx a b d v ls st D L X) : am_sB lw n F K' pc ins nx a b d v ls st D L X' := by
  unfold am_sB at h ⊢
  split at h
  all_goals first
    | exact am_sC_mono hF hK hX h
    | (repeat' split at h
       all_goals first
         | exact absurd h id
         | exact hX _ _ _ _ _ h
         | exact ⟨h.1, hX _ _ _ _ _ h.2⟩)
theorem am_sA_mono (hF : ∀ a, am_mono (F a)) (hK : ∀ r D L, K r D L → K' r D L) (hX : ∀ pc ls st D L, X pc ls st D L → X' pc ls st D L) (h : am_sA lw n F K pc ins nx a b d v w ls st D L X) : am_sA lw n F K' pc ins nx a b d v w ls st D L X' := by
  unfold am_sA at h ⊢
  split at h
  all_goals first
    | exact hX _ _ _ _ _ h
    | exact am_sB_mono hF hK hX h
    | (repeat' split at h
       all_goals first
         | exact absurd h id
         | exact hX _ _ _ _ _ h
         | exact am_s1_mono (fun l hl => hX _ _ _ _ _ hl) h
         | exact am_s2_mono (fun l hl => hX _ _ _ _ _ hl) h)
theorem am_st_mono {C : Nat → Option am_I} (hF : ∀ a, am_mono (F a)) (hK : ∀ r D L, K r D L → K' r D L) (hX : ∀ pc ls st D L, X pc ls st D L → X' pc ls st D L) (h : am_st lw n C F K pc ls st D L X) : am_st lw n C F K' pc ls st D L X' := by
  unfold am_st at h ⊢
  split at h
  · exact am_sA_mono hF hK hX h
  · exact absurd h id
theorem am_Wp_st {C : Nat → Option am_I} (hF : ∀ a, am_mono (F a)) (h : am_st lw n C F K pc ls st D L (am_Wp lw n C F K)) : am_Wp lw n C F K pc ls st D L := fun X hX => hX _ _ _ _ _ (am_st_mono hF (fun _ _ _ h => h) (fun _ _ _ _ _ h' => h' X hX) h)
theorem am_Wp_bl {C : Nat → Option am_I} (hF : ∀ a, am_mono (F a)) (hs : List Nat) : ∀ (k pc : Nat) (ls : am_V) (st : List Value) (D : am_D) (L : am_L), am_bl lw n C F K (am_Wp lw n C F K) hs k pc ls st D L → am_Wp lw n C F K pc ls st D L
  | 0, _, _, _, _, _, h => h
  | k + 1, pc, ls, st, D, L, h => by
    refine am_Wp_st hF (am_st_mono hF (fun _ _ _ h => h) (fun pc' ls' st' D' L' h' => ?_) h)
    split at h'
    · exact h'
    · exact am_Wp_bl hF hs k _ _ _ _ _ h'
theorem am_Wp_mono {C : Nat → Option am_I} (hF : ∀ a, am_mono (F a)) (hK : ∀ r D L, K r D L → K' r D L) (h : am_Wp lw n C F K pc ls st D L) : am_Wp lw n C F K' pc ls st D L := fun X hX => h X (fun _ _ _ _ _ h' => hX _ _ _ _ _ (am_st_mono hF hK (fun _ _ _ _ _ q => q) h'))
theorem am_bl_mono {C : Nat → Option am_I} (hF : ∀ a, am_mono (F a)) (hK : ∀ r D L, K r D L → K' r D L) (hX : ∀ pc ls st D L, X pc ls st D L → X' pc ls st D L) (hs : List Nat) : ∀ (k pc : Nat) (ls : am_V) (st : List Value) (D : am_D) (L : am_L), am_bl lw n C F K X hs k pc ls st D L → am_bl lw n C F K' X' hs k pc ls st D L
  | 0, _, _, _, _, _, h => hX _ _ _ _ _ h
  | k + 1, pc, ls, st, D, L, h => by
    refine am_st_mono hF hK (fun pc' ls' st' D' L' h' => ?_) h
    split at h'
    · exact hX _ _ _ _ _ h'
    · exact am_bl_mono hF hK hX hs k _ _ _ _ _ h'
/-- a method whose spec is its own code, up to k steps -/
def am_in (C : Nat → Option am_I) (F : Nat → am_Sp) (k : Nat) (lo : List Value → am_V) : am_Sp := fun as D L K => am_bl false 0 C F K (fun _ _ _ _ _ => False) [] k 0 (lo as) [] D L
theorem am_in_mono {C : Nat → Option am_I} (hF : ∀ a, am_mono (F a)) (k : Nat) (lo : List Value → am_V) : am_mono (am_in C F k lo) := fun _ _ _ _ _ hK h => am_bl_mono hF hK (fun _ _ _ _ _ h => h) [] _ _ _ _ _ _ h
theorem am_in_Wp {C : Nat → Option am_I} (hF : ∀ a, am_mono (F a)) {k : Nat} {lo : List Value → am_V} {as : List Value} (h : am_in C F k lo as D L K) : am_Wp false 0 C F K 0 (lo as) [] D L := am_Wp_bl hF [] k _ _ _ _ _ (am_bl_mono hF (fun _ _ _ h => h) (fun _ _ _ _ _ h => absurd h id) [] _ _ _ _ _ _ h)
end MO
