/-! the law's loop -/
theorem im_fc {D D' : am_D} {v : vs_T} (h : im D v) (f : fc D D') : im D' v := by
  unfold im at h ⊢
  rw [f 49 (by omega), f 50 (by omega), f 51 (by omega), f 55 (by omega), f 56 (by omega), f 57 (by omega), f 58 (by omega), f 71 (by omega), f 72 (by omega), f 74 (by omega), f 75 (by omega), f 76 (by omega), f 77 (by omega)]
  exact h
theorem ix_fo {D D' : am_D} {v : vs_T} (h : ix D v) (f : fo D D') : ix D' v := ⟨ib_fr h.1 (fun k hk => f k (by omega)), ic_fr h.2.1 (fun k _ _ => f k (by omega)), iw_fr h.2.2 (fun k _ _ => f k (by omega))⟩
theorem fo_fq {D D' : am_D} (h : fq D D') : fo D D' := fun k hk => h.1 k (by omega)
theorem lw_end {n i : Nat} (hn : n ≤ 3072) (hi : i ≤ 4000) : (Int32.ofNat n - 6 < nI i) ↔ n < i + 6 := by
  have e : (nI n - nI 6).toInt = (n : Int) - 6 := pk_sub_toInt (by omega) (by decide)
  have e2 : Int32.ofNat n - 6 = nI n - nI 6 := rfl
  rw [e2, Int32.lt_iff_toInt_lt, e, nI_toInt (by omega)]
  omega
def lw_K : am_K := fun r _ _ => r = some (.int 1)
set_option maxHeartbeats 4000000 in
theorem lw_c0 {n i : Nat} {v : vs_T} {D : am_D} {L : am_L} (hn : n ≤ 3072) (h6 : i + 6 ≤ n) (hv : vok v) (hx : ix D v) (hm : im D v) (nxt : ∀ (v : vs_T) (D : am_D) (L : am_L), vok v → ix D v → im D v → am_Wp true n cdL_law fnL_law lw_K 18 [some (.ref 79), some (.ref 0), some (.ref 49), some (.int (nI (i + 6)))] [] D L) : am_Wp true n cdL_law fnL_law lw_K 192 [some (.ref 79), some (.ref 0), some (.ref 49), some (.int (nI i))] [] D L := by
  have n6 : nI i + 6 = nI (i + 6) := by rw [show (6 : Int32) = nI 6 by decide +kernel, nI_add]
  have i1 : vp_in (nI i + 1) n := by rw [show (1 : Int32) = nI 1 by decide +kernel, nI_add]; exact vp_in_nI (by omega) (by omega)
  have i2 : vp_in (nI i + 2) n := by rw [show (2 : Int32) = nI 2 by decide +kernel, nI_add]; exact vp_in_nI (by omega) (by omega)
  refine am_Wp_bl mfL_law [18] 60 _ _ _ _ _ ?_
  (repeat ((conv => whnf); (first | refine zo0 ?_ | refine zo1 ?_ | refine br_z ?_ | refine br_o ?_ | refine br_zn ?_ | refine br_on ?_ | refine nz2 ?_ | refine nz6 ?_ | refine nz32 ?_ | refine And.intro (by assumption) ?_))); (conv => whnf)
  refine ⟨v, hv, hx, fun D1 L1 f1 i1 => ?_⟩
  have m1 : im D1 v := im_fc hm f1
  (repeat ((conv => whnf); (first | refine zo0 ?_ | refine zo1 ?_ | refine br_z ?_ | refine br_o ?_ | refine br_zn ?_ | refine br_on ?_ | refine nz2 ?_ | refine nz6 ?_ | refine nz32 ?_ | refine And.intro (by assumption) ?_))); (conv => whnf)
  rw [f1 79 (by decide)]
  refine ⟨v, hv, m1, fun D2 f2 m2 => ?_⟩
  (repeat ((conv => whnf); (first | refine zo0 ?_ | refine zo1 ?_ | refine br_z ?_ | refine br_o ?_ | refine br_zn ?_ | refine br_on ?_ | refine nz2 ?_ | refine nz6 ?_ | refine nz32 ?_ | refine And.intro (by assumption) ?_))); (conv => whnf)
  refine ⟨fun _ => ?_, fun q => absurd rfl q⟩
  (repeat ((conv => whnf); (first | refine zo0 ?_ | refine zo1 ?_ | refine br_z ?_ | refine br_o ?_ | refine br_zn ?_ | refine br_on ?_ | refine nz2 ?_ | refine nz6 ?_ | refine nz32 ?_ | refine And.intro (by assumption) ?_))); (conv => whnf)
  rw [n6]
  exact nxt _ D2 L1 (vok_type hv) (ix_fo i1 f2) m2
set_option maxHeartbeats 4000000 in
theorem lw_c1 {n i : Nat} {v : vs_T} {D : am_D} {L : am_L} (hn : n ≤ 3072) (h6 : i + 6 ≤ n) (hv : vok v) (hx : ix D v) (hm : im D v) (nxt : ∀ (v : vs_T) (D : am_D) (L : am_L), vok v → ix D v → im D v → am_Wp true n cdL_law fnL_law lw_K 18 [some (.ref 79), some (.ref 0), some (.ref 49), some (.int (nI (i + 6)))] [] D L) : am_Wp true n cdL_law fnL_law lw_K 225 [some (.ref 79), some (.ref 0), some (.ref 49), some (.int (nI i))] [] D L := by
  have n6 : nI i + 6 = nI (i + 6) := by rw [show (6 : Int32) = nI 6 by decide +kernel, nI_add]
  have i1 : vp_in (nI i + 1) n := by rw [show (1 : Int32) = nI 1 by decide +kernel, nI_add]; exact vp_in_nI (by omega) (by omega)
  refine am_Wp_bl mfL_law [18] 60 _ _ _ _ _ ?_
  (repeat ((conv => whnf); (first | refine zo0 ?_ | refine zo1 ?_ | refine br_z ?_ | refine br_o ?_ | refine br_zn ?_ | refine br_on ?_ | refine nz2 ?_ | refine nz6 ?_ | refine nz32 ?_ | refine And.intro (by assumption) ?_))); (conv => whnf)
  refine ⟨v, hv, hx, fun D1 L1 f1 i1 => ?_⟩
  have m1 : im D1 v := im_fc hm f1
  (repeat ((conv => whnf); (first | refine zo0 ?_ | refine zo1 ?_ | refine br_z ?_ | refine br_o ?_ | refine br_zn ?_ | refine br_on ?_ | refine nz2 ?_ | refine nz6 ?_ | refine nz32 ?_ | refine And.intro (by assumption) ?_))); (conv => whnf)
  rw [f1 79 (by decide)]
  refine ⟨v, hv, m1, fun D2 f2 m2 => ?_⟩
  (repeat ((conv => whnf); (first | refine zo0 ?_ | refine zo1 ?_ | refine br_z ?_ | refine br_o ?_ | refine br_zn ?_ | refine br_on ?_ | refine nz2 ?_ | refine nz6 ?_ | refine nz32 ?_ | refine And.intro (by assumption) ?_))); (conv => whnf)
  refine ⟨fun _ => ?_, fun q => absurd rfl q⟩
  (repeat ((conv => whnf); (first | refine zo0 ?_ | refine zo1 ?_ | refine br_z ?_ | refine br_o ?_ | refine br_zn ?_ | refine br_on ?_ | refine nz2 ?_ | refine nz6 ?_ | refine nz32 ?_ | refine And.intro (by assumption) ?_))); (conv => whnf)
  rw [n6]
  exact nxt _ D2 L1 (vok_wipe hv) (ix_fo i1 f2) m2
set_option maxHeartbeats 4000000 in
theorem lw_c2 {n i : Nat} {v : vs_T} {D : am_D} {L : am_L} (hn : n ≤ 3072) (h6 : i + 6 ≤ n) (hv : vok v) (hx : ix D v) (hm : im D v) (nxt : ∀ (v : vs_T) (D : am_D) (L : am_L), vok v → ix D v → im D v → am_Wp true n cdL_law fnL_law lw_K 18 [some (.ref 79), some (.ref 0), some (.ref 49), some (.int (nI (i + 6)))] [] D L) : am_Wp true n cdL_law fnL_law lw_K 248 [some (.ref 79), some (.ref 0), some (.ref 49), some (.int (nI i))] [] D L := by
  have n6 : nI i + 6 = nI (i + 6) := by rw [show (6 : Int32) = nI 6 by decide +kernel, nI_add]
  have i1 : vp_in (nI i + 1) n := by rw [show (1 : Int32) = nI 1 by decide +kernel, nI_add]; exact vp_in_nI (by omega) (by omega)
  refine am_Wp_bl mfL_law [18] 60 _ _ _ _ _ ?_
  (repeat ((conv => whnf); (first | refine zo0 ?_ | refine zo1 ?_ | refine br_z ?_ | refine br_o ?_ | refine br_zn ?_ | refine br_on ?_ | refine nz2 ?_ | refine nz6 ?_ | refine nz32 ?_ | refine And.intro (by assumption) ?_))); (conv => whnf)
  refine ⟨v, hv, hx, fun D1 L1 f1 i1 => ?_⟩
  have m1 : im D1 v := im_fc hm f1
  (repeat ((conv => whnf); (first | refine zo0 ?_ | refine zo1 ?_ | refine br_z ?_ | refine br_o ?_ | refine br_zn ?_ | refine br_on ?_ | refine nz2 ?_ | refine nz6 ?_ | refine nz32 ?_ | refine And.intro (by assumption) ?_))); (conv => whnf)
  rw [f1 79 (by decide)]
  refine ⟨v, hv, m1, fun D2 f2 m2 => ?_⟩
  (repeat ((conv => whnf); (first | refine zo0 ?_ | refine zo1 ?_ | refine br_z ?_ | refine br_o ?_ | refine br_zn ?_ | refine br_on ?_ | refine nz2 ?_ | refine nz6 ?_ | refine nz32 ?_ | refine And.intro (by assumption) ?_))); (conv => whnf)
  refine ⟨fun _ => ?_, fun q => absurd rfl q⟩
  (repeat ((conv => whnf); (first | refine zo0 ?_ | refine zo1 ?_ | refine br_z ?_ | refine br_o ?_ | refine br_zn ?_ | refine br_on ?_ | refine nz2 ?_ | refine nz6 ?_ | refine nz32 ?_ | refine And.intro (by assumption) ?_))); (conv => whnf)
  rw [n6]
  exact nxt _ D2 L1 (vok_undo hv) (ix_fo i1 f2) m2
set_option maxHeartbeats 4000000 in
theorem lw_c3 {n i : Nat} {v : vs_T} {D : am_D} {L : am_L} (hn : n ≤ 3072) (h6 : i + 6 ≤ n) (hv : vok v) (hx : ix D v) (hm : im D v) (nxt : ∀ (v : vs_T) (D : am_D) (L : am_L), vok v → ix D v → im D v → am_Wp true n cdL_law fnL_law lw_K 18 [some (.ref 79), some (.ref 0), some (.ref 49), some (.int (nI (i + 6)))] [] D L) : am_Wp true n cdL_law fnL_law lw_K 271 [some (.ref 79), some (.ref 0), some (.ref 49), some (.int (nI i))] [] D L := by
  have n6 : nI i + 6 = nI (i + 6) := by rw [show (6 : Int32) = nI 6 by decide +kernel, nI_add]
  have i1 : vp_in (nI i + 1) n := by rw [show (1 : Int32) = nI 1 by decide +kernel, nI_add]; exact vp_in_nI (by omega) (by omega)
  refine am_Wp_bl mfL_law [18] 60 _ _ _ _ _ ?_
  (repeat ((conv => whnf); (first | refine zo0 ?_ | refine zo1 ?_ | refine br_z ?_ | refine br_o ?_ | refine br_zn ?_ | refine br_on ?_ | refine nz2 ?_ | refine nz6 ?_ | refine nz32 ?_ | refine And.intro (by assumption) ?_))); (conv => whnf)
  refine ⟨v, hv, hx, fun D1 L1 f1 i1 => ?_⟩
  have m1 : im D1 v := im_fc hm f1
  (repeat ((conv => whnf); (first | refine zo0 ?_ | refine zo1 ?_ | refine br_z ?_ | refine br_o ?_ | refine br_zn ?_ | refine br_on ?_ | refine nz2 ?_ | refine nz6 ?_ | refine nz32 ?_ | refine And.intro (by assumption) ?_))); (conv => whnf)
  rw [f1 79 (by decide)]
  refine ⟨v, hv, m1, fun D2 f2 => ?_⟩
  (repeat ((conv => whnf); (first | refine zo0 ?_ | refine zo1 ?_ | refine br_z ?_ | refine br_o ?_ | refine br_zn ?_ | refine br_on ?_ | refine nz2 ?_ | refine nz6 ?_ | refine nz32 ?_ | refine And.intro (by assumption) ?_))); (conv => whnf)
  refine ⟨fun _ => ?_, fun q => absurd rfl q⟩
  (repeat ((conv => whnf); (first | refine zo0 ?_ | refine zo1 ?_ | refine br_z ?_ | refine br_o ?_ | refine br_zn ?_ | refine br_on ?_ | refine nz2 ?_ | refine nz6 ?_ | refine nz32 ?_ | refine And.intro (by assumption) ?_))); (conv => whnf)
  rw [n6]
  exact nxt v D2 L1 hv (ix_fo i1 (fo_fq f2)) (im_fq m1 f2)
set_option maxHeartbeats 4000000 in
theorem lw_c4 {n i : Nat} {v : vs_T} {D : am_D} {L : am_L} (hn : n ≤ 3072) (h6 : i + 6 ≤ n) (hv : vok v) (hx : ix D v) (hm : im D v) (nxt : ∀ (v : vs_T) (D : am_D) (L : am_L), vok v → ix D v → im D v → am_Wp true n cdL_law fnL_law lw_K 18 [some (.ref 79), some (.ref 0), some (.ref 49), some (.int (nI (i + 6)))] [] D L) : am_Wp true n cdL_law fnL_law lw_K 294 [some (.ref 79), some (.ref 0), some (.ref 49), some (.int (nI i))] [] D L := by
  have n6 : nI i + 6 = nI (i + 6) := by rw [show (6 : Int32) = nI 6 by decide +kernel, nI_add]
  have i1 : vp_in (nI i + 1) n := by rw [show (1 : Int32) = nI 1 by decide +kernel, nI_add]; exact vp_in_nI (by omega) (by omega)
  have i2 : vp_in (nI i + 2) n := by rw [show (2 : Int32) = nI 2 by decide +kernel, nI_add]; exact vp_in_nI (by omega) (by omega)
  refine am_Wp_bl mfL_law [18] 60 _ _ _ _ _ ?_
  (repeat ((conv => whnf); (first | refine zo0 ?_ | refine zo1 ?_ | refine br_z ?_ | refine br_o ?_ | refine br_zn ?_ | refine br_on ?_ | refine nz2 ?_ | refine nz6 ?_ | refine nz32 ?_ | refine And.intro (by assumption) ?_))); (conv => whnf)
  refine ⟨v, hv, hx, fun D1 L1 f1 i1 => ?_⟩
  have m1 : im D1 v := im_fc hm f1
  (repeat ((conv => whnf); (first | refine zo0 ?_ | refine zo1 ?_ | refine br_z ?_ | refine br_o ?_ | refine br_zn ?_ | refine br_on ?_ | refine nz2 ?_ | refine nz6 ?_ | refine nz32 ?_ | refine And.intro (by assumption) ?_))); (conv => whnf)
  rw [f1 79 (by decide)]
  refine ⟨v, hv, m1, fun D2 f2 => ?_⟩
  (repeat ((conv => whnf); (first | refine zo0 ?_ | refine zo1 ?_ | refine br_z ?_ | refine br_o ?_ | refine br_zn ?_ | refine br_on ?_ | refine nz2 ?_ | refine nz6 ?_ | refine nz32 ?_ | refine And.intro (by assumption) ?_))); (conv => whnf)
  refine ⟨fun _ => ?_, fun q => absurd rfl q⟩
  (repeat ((conv => whnf); (first | refine zo0 ?_ | refine zo1 ?_ | refine br_z ?_ | refine br_o ?_ | refine br_zn ?_ | refine br_on ?_ | refine nz2 ?_ | refine nz6 ?_ | refine nz32 ?_ | refine And.intro (by assumption) ?_))); (conv => whnf)
  rw [n6]
  exact nxt v D2 L1 hv (ix_fo i1 (fo_fq f2)) (im_fq m1 f2)
set_option maxHeartbeats 4000000 in
theorem lw_c5 {n i : Nat} {v : vs_T} {D : am_D} {L : am_L} (hn : n ≤ 3072) (h6 : i + 6 ≤ n) (hv : vok v) (hx : ix D v) (hm : im D v) (nxt : ∀ (v : vs_T) (D : am_D) (L : am_L), vok v → ix D v → im D v → am_Wp true n cdL_law fnL_law lw_K 18 [some (.ref 79), some (.ref 0), some (.ref 49), some (.int (nI (i + 6)))] [] D L) : am_Wp true n cdL_law fnL_law lw_K 327 [some (.ref 79), some (.ref 0), some (.ref 49), some (.int (nI i))] [] D L := by
  have n6 : nI i + 6 = nI (i + 6) := by rw [show (6 : Int32) = nI 6 by decide +kernel, nI_add]
  have i1 : vp_in (nI i + 1) n := by rw [show (1 : Int32) = nI 1 by decide +kernel, nI_add]; exact vp_in_nI (by omega) (by omega)
  refine am_Wp_bl mfL_law [18] 60 _ _ _ _ _ ?_
  (repeat ((conv => whnf); (first | refine zo0 ?_ | refine zo1 ?_ | refine br_z ?_ | refine br_o ?_ | refine br_zn ?_ | refine br_on ?_ | refine nz2 ?_ | refine nz6 ?_ | refine nz32 ?_ | refine And.intro (by assumption) ?_))); (conv => whnf)
  refine ⟨v, hv, hx, fun D1 L1 f1 i1 => ?_⟩
  have m1 : im D1 v := im_fc hm f1
  (repeat ((conv => whnf); (first | refine zo0 ?_ | refine zo1 ?_ | refine br_z ?_ | refine br_o ?_ | refine br_zn ?_ | refine br_on ?_ | refine nz2 ?_ | refine nz6 ?_ | refine nz32 ?_ | refine And.intro (by assumption) ?_))); (conv => whnf)
  rw [f1 79 (by decide)]
  refine ⟨v, hv, m1, fun D2 f2 => ?_⟩
  (repeat ((conv => whnf); (first | refine zo0 ?_ | refine zo1 ?_ | refine br_z ?_ | refine br_o ?_ | refine br_zn ?_ | refine br_on ?_ | refine nz2 ?_ | refine nz6 ?_ | refine nz32 ?_ | refine And.intro (by assumption) ?_))); (conv => whnf)
  refine ⟨fun _ => ?_, fun q => absurd rfl q⟩
  (repeat ((conv => whnf); (first | refine zo0 ?_ | refine zo1 ?_ | refine br_z ?_ | refine br_o ?_ | refine br_zn ?_ | refine br_on ?_ | refine nz2 ?_ | refine nz6 ?_ | refine nz32 ?_ | refine And.intro (by assumption) ?_))); (conv => whnf)
  rw [n6]
  exact nxt v D2 L1 hv (ix_fo i1 (fo_fq f2)) (im_fq m1 f2)
set_option maxHeartbeats 4000000 in
theorem lw_c6 {n i : Nat} {v : vs_T} {D : am_D} {L : am_L} (hn : n ≤ 3072) (h6 : i + 6 ≤ n) (hv : vok v) (hx : ix D v) (hm : im D v) (nxt : ∀ (v : vs_T) (D : am_D) (L : am_L), vok v → ix D v → im D v → am_Wp true n cdL_law fnL_law lw_K 18 [some (.ref 79), some (.ref 0), some (.ref 49), some (.int (nI (i + 6)))] [] D L) : am_Wp true n cdL_law fnL_law lw_K 350 [some (.ref 79), some (.ref 0), some (.ref 49), some (.int (nI i))] [] D L := by
  have n6 : nI i + 6 = nI (i + 6) := by rw [show (6 : Int32) = nI 6 by decide +kernel, nI_add]
  have i1 : vp_in (nI i + 1) n := by rw [show (1 : Int32) = nI 1 by decide +kernel, nI_add]; exact vp_in_nI (by omega) (by omega)
  have i2 : vp_in (nI i + 2) n := by rw [show (2 : Int32) = nI 2 by decide +kernel, nI_add]; exact vp_in_nI (by omega) (by omega)
  refine am_Wp_bl mfL_law [18] 60 _ _ _ _ _ ?_
  (repeat ((conv => whnf); (first | refine zo0 ?_ | refine zo1 ?_ | refine br_z ?_ | refine br_o ?_ | refine br_zn ?_ | refine br_on ?_ | refine nz2 ?_ | refine nz6 ?_ | refine nz32 ?_ | refine And.intro (by assumption) ?_))); (conv => whnf)
  refine ⟨v, hv, hx, fun D1 L1 f1 i1 => ?_⟩
  have m1 : im D1 v := im_fc hm f1
  (repeat ((conv => whnf); (first | refine zo0 ?_ | refine zo1 ?_ | refine br_z ?_ | refine br_o ?_ | refine br_zn ?_ | refine br_on ?_ | refine nz2 ?_ | refine nz6 ?_ | refine nz32 ?_ | refine And.intro (by assumption) ?_))); (conv => whnf)
  rw [f1 79 (by decide)]
  refine ⟨v, hv, m1, fun D2 f2 m2 => ?_⟩
  (repeat ((conv => whnf); (first | refine zo0 ?_ | refine zo1 ?_ | refine br_z ?_ | refine br_o ?_ | refine br_zn ?_ | refine br_on ?_ | refine nz2 ?_ | refine nz6 ?_ | refine nz32 ?_ | refine And.intro (by assumption) ?_))); (conv => whnf)
  refine ⟨fun _ => ?_, fun q => absurd rfl q⟩
  (repeat ((conv => whnf); (first | refine zo0 ?_ | refine zo1 ?_ | refine br_z ?_ | refine br_o ?_ | refine br_zn ?_ | refine br_on ?_ | refine nz2 ?_ | refine nz6 ?_ | refine nz32 ?_ | refine And.intro (by assumption) ?_))); (conv => whnf)
  rw [n6]
  exact nxt _ D2 L1 (vok_set hv) (ix_fo i1 f2) m2
set_option maxHeartbeats 4000000 in
theorem lw_c7 {n i : Nat} {v : vs_T} {D : am_D} {L : am_L} (hn : n ≤ 3072) (h6 : i + 6 ≤ n) (hv : vok v) (hx : ix D v) (hm : im D v) (nxt : ∀ (v : vs_T) (D : am_D) (L : am_L), vok v → ix D v → im D v → am_Wp true n cdL_law fnL_law lw_K 18 [some (.ref 79), some (.ref 0), some (.ref 49), some (.int (nI (i + 6)))] [] D L) : am_Wp true n cdL_law fnL_law lw_K 383 [some (.ref 79), some (.ref 0), some (.ref 49), some (.int (nI i))] [] D L := by
  have n6 : nI i + 6 = nI (i + 6) := by rw [show (6 : Int32) = nI 6 by decide +kernel, nI_add]
  have i1 : vp_in (nI i + 1) n := by rw [show (1 : Int32) = nI 1 by decide +kernel, nI_add]; exact vp_in_nI (by omega) (by omega)
  have i2 : vp_in (nI i + 2) n := by rw [show (2 : Int32) = nI 2 by decide +kernel, nI_add]; exact vp_in_nI (by omega) (by omega)
  have i3 : vp_in (nI i + 3) n := by rw [show (3 : Int32) = nI 3 by decide +kernel, nI_add]; exact vp_in_nI (by omega) (by omega)
  refine am_Wp_bl mfL_law [18] 60 _ _ _ _ _ ?_
  (repeat ((conv => whnf); (first | refine zo0 ?_ | refine zo1 ?_ | refine br_z ?_ | refine br_o ?_ | refine br_zn ?_ | refine br_on ?_ | refine nz2 ?_ | refine nz6 ?_ | refine nz32 ?_ | refine And.intro (by assumption) ?_))); (conv => whnf)
  refine ⟨v, hv, hx, fun D1 L1 f1 i1 => ?_⟩
  have m1 : im D1 v := im_fc hm f1
  (repeat ((conv => whnf); (first | refine zo0 ?_ | refine zo1 ?_ | refine br_z ?_ | refine br_o ?_ | refine br_zn ?_ | refine br_on ?_ | refine nz2 ?_ | refine nz6 ?_ | refine nz32 ?_ | refine And.intro (by assumption) ?_))); (conv => whnf)
  rw [f1 79 (by decide)]
  refine ⟨v, hv, m1, fun D2 f2 m2 => ?_⟩
  (repeat ((conv => whnf); (first | refine zo0 ?_ | refine zo1 ?_ | refine br_z ?_ | refine br_o ?_ | refine br_zn ?_ | refine br_on ?_ | refine nz2 ?_ | refine nz6 ?_ | refine nz32 ?_ | refine And.intro (by assumption) ?_))); (conv => whnf)
  refine ⟨fun _ => ?_, fun q => absurd rfl q⟩
  (repeat ((conv => whnf); (first | refine zo0 ?_ | refine zo1 ?_ | refine br_z ?_ | refine br_o ?_ | refine br_zn ?_ | refine br_on ?_ | refine nz2 ?_ | refine nz6 ?_ | refine nz32 ?_ | refine And.intro (by assumption) ?_))); (conv => whnf)
  rw [n6]
  exact nxt _ D2 L1 (vok_event hv) (ix_fo i1 f2) m2
set_option maxHeartbeats 4000000 in
theorem lw_c8 {n i : Nat} {v : vs_T} {D : am_D} {L : am_L} (hn : n ≤ 3072) (h6 : i + 6 ≤ n) (hv : vok v) (hx : ix D v) (hm : im D v) (nxt : ∀ (v : vs_T) (D : am_D) (L : am_L), vok v → ix D v → im D v → am_Wp true n cdL_law fnL_law lw_K 18 [some (.ref 79), some (.ref 0), some (.ref 49), some (.int (nI (i + 6)))] [] D L) : am_Wp true n cdL_law fnL_law lw_K 426 [some (.ref 79), some (.ref 0), some (.ref 49), some (.int (nI i))] [] D L := by
  have n6 : nI i + 6 = nI (i + 6) := by rw [show (6 : Int32) = nI 6 by decide +kernel, nI_add]
  refine am_Wp_bl mfL_law [18] 60 _ _ _ _ _ ?_
  (repeat ((conv => whnf); (first | refine zo0 ?_ | refine zo1 ?_ | refine br_z ?_ | refine br_o ?_ | refine br_zn ?_ | refine br_on ?_ | refine nz2 ?_ | refine nz6 ?_ | refine nz32 ?_ | refine And.intro (by assumption) ?_))); (conv => whnf)
  refine ⟨v, hv, hx, fun D1 L1 f1 i1 => ?_⟩
  have m1 : im D1 v := im_fc hm f1
  (repeat ((conv => whnf); (first | refine zo0 ?_ | refine zo1 ?_ | refine br_z ?_ | refine br_o ?_ | refine br_zn ?_ | refine br_on ?_ | refine nz2 ?_ | refine nz6 ?_ | refine nz32 ?_ | refine And.intro (by assumption) ?_))); (conv => whnf)
  refine ⟨v, hv, m1, fun D2 f2 m2 => ?_⟩
  (repeat ((conv => whnf); (first | refine zo0 ?_ | refine zo1 ?_ | refine br_z ?_ | refine br_o ?_ | refine br_zn ?_ | refine br_on ?_ | refine nz2 ?_ | refine nz6 ?_ | refine nz32 ?_ | refine And.intro (by assumption) ?_))); (conv => whnf)
  refine ⟨fun _ => ?_, fun q => absurd rfl q⟩
  (repeat ((conv => whnf); (first | refine zo0 ?_ | refine zo1 ?_ | refine br_z ?_ | refine br_o ?_ | refine br_zn ?_ | refine br_on ?_ | refine nz2 ?_ | refine nz6 ?_ | refine nz32 ?_ | refine And.intro (by assumption) ?_))); (conv => whnf)
  rw [n6]
  exact nxt _ D2 L1 (vok_back hv) (ix_fo i1 f2) m2
set_option maxHeartbeats 4000000 in
theorem lw_c9 {n i : Nat} {v : vs_T} {D : am_D} {L : am_L} (hn : n ≤ 3072) (h6 : i + 6 ≤ n) (hv : vok v) (hx : ix D v) (hm : im D v) (nxt : ∀ (v : vs_T) (D : am_D) (L : am_L), vok v → ix D v → im D v → am_Wp true n cdL_law fnL_law lw_K 18 [some (.ref 79), some (.ref 0), some (.ref 49), some (.int (nI (i + 6)))] [] D L) : am_Wp true n cdL_law fnL_law lw_K 439 [some (.ref 79), some (.ref 0), some (.ref 49), some (.int (nI i))] [] D L := by
  have n6 : nI i + 6 = nI (i + 6) := by rw [show (6 : Int32) = nI 6 by decide +kernel, nI_add]
  have i1 : vp_in (nI i + 1) n := by rw [show (1 : Int32) = nI 1 by decide +kernel, nI_add]; exact vp_in_nI (by omega) (by omega)
  refine am_Wp_bl mfL_law [18] 60 _ _ _ _ _ ?_
  (repeat ((conv => whnf); (first | refine zo0 ?_ | refine zo1 ?_ | refine br_z ?_ | refine br_o ?_ | refine br_zn ?_ | refine br_on ?_ | refine nz2 ?_ | refine nz6 ?_ | refine nz32 ?_ | refine And.intro (by assumption) ?_))); (conv => whnf)
  refine ⟨v, hv, hx, fun D1 L1 f1 i1 => ?_⟩
  have m1 : im D1 v := im_fc hm f1
  (repeat ((conv => whnf); (first | refine zo0 ?_ | refine zo1 ?_ | refine br_z ?_ | refine br_o ?_ | refine br_zn ?_ | refine br_on ?_ | refine nz2 ?_ | refine nz6 ?_ | refine nz32 ?_ | refine And.intro (by assumption) ?_))); (conv => whnf)
  rw [f1 79 (by decide)]
  refine ⟨v, hv, m1, fun D2 f2 m2 => ?_⟩
  (repeat ((conv => whnf); (first | refine zo0 ?_ | refine zo1 ?_ | refine br_z ?_ | refine br_o ?_ | refine br_zn ?_ | refine br_on ?_ | refine nz2 ?_ | refine nz6 ?_ | refine nz32 ?_ | refine And.intro (by assumption) ?_))); (conv => whnf)
  refine ⟨fun _ => ?_, fun q => absurd rfl q⟩
  (repeat ((conv => whnf); (first | refine zo0 ?_ | refine zo1 ?_ | refine br_z ?_ | refine br_o ?_ | refine br_zn ?_ | refine br_on ?_ | refine nz2 ?_ | refine nz6 ?_ | refine nz32 ?_ | refine And.intro (by assumption) ?_))); (conv => whnf)
  rw [n6]
  exact nxt _ D2 L1 (vok_read hv) (ix_fo i1 f2) m2
set_option maxHeartbeats 4000000 in
theorem lw_c10 {n i : Nat} {v : vs_T} {D : am_D} {L : am_L} (hn : n ≤ 3072) (h6 : i + 6 ≤ n) (hv : vok v) (hx : ix D v) (hm : im D v) (nxt : ∀ (v : vs_T) (D : am_D) (L : am_L), vok v → ix D v → im D v → am_Wp true n cdL_law fnL_law lw_K 18 [some (.ref 79), some (.ref 0), some (.ref 49), some (.int (nI (i + 6)))] [] D L) : am_Wp true n cdL_law fnL_law lw_K 462 [some (.ref 79), some (.ref 0), some (.ref 49), some (.int (nI i))] [] D L := by
  have n6 : nI i + 6 = nI (i + 6) := by rw [show (6 : Int32) = nI 6 by decide +kernel, nI_add]
  have i1 : vp_in (nI i + 1) n := by rw [show (1 : Int32) = nI 1 by decide +kernel, nI_add]; exact vp_in_nI (by omega) (by omega)
  have i2 : vp_in (nI i + 2) n := by rw [show (2 : Int32) = nI 2 by decide +kernel, nI_add]; exact vp_in_nI (by omega) (by omega)
  refine am_Wp_bl mfL_law [18] 60 _ _ _ _ _ ?_
  (repeat ((conv => whnf); (first | refine zo0 ?_ | refine zo1 ?_ | refine br_z ?_ | refine br_o ?_ | refine br_zn ?_ | refine br_on ?_ | refine nz2 ?_ | refine nz6 ?_ | refine nz32 ?_ | refine And.intro (by assumption) ?_))); (conv => whnf)
  refine ⟨v, hv, hx, fun D1 L1 f1 i1 => ?_⟩
  have m1 : im D1 v := im_fc hm f1
  (repeat ((conv => whnf); (first | refine zo0 ?_ | refine zo1 ?_ | refine br_z ?_ | refine br_o ?_ | refine br_zn ?_ | refine br_on ?_ | refine nz2 ?_ | refine nz6 ?_ | refine nz32 ?_ | refine And.intro (by assumption) ?_))); (conv => whnf)
  rw [f1 79 (by decide)]
  refine ⟨v, hv, m1, fun D2 f2 => ?_⟩
  (repeat ((conv => whnf); (first | refine zo0 ?_ | refine zo1 ?_ | refine br_z ?_ | refine br_o ?_ | refine br_zn ?_ | refine br_on ?_ | refine nz2 ?_ | refine nz6 ?_ | refine nz32 ?_ | refine And.intro (by assumption) ?_))); (conv => whnf)
  refine ⟨fun _ => ?_, fun q => absurd rfl q⟩
  (repeat ((conv => whnf); (first | refine zo0 ?_ | refine zo1 ?_ | refine br_z ?_ | refine br_o ?_ | refine br_zn ?_ | refine br_on ?_ | refine nz2 ?_ | refine nz6 ?_ | refine nz32 ?_ | refine And.intro (by assumption) ?_))); (conv => whnf)
  rw [n6]
  exact nxt v D2 L1 hv (ix_fo i1 (fo_fq f2)) (im_fq m1 f2)
set_option maxHeartbeats 4000000 in
theorem lw_c11 {n i : Nat} {v : vs_T} {D : am_D} {L : am_L} (hn : n ≤ 3072) (h6 : i + 6 ≤ n) (hv : vok v) (hx : ix D v) (hm : im D v) (nxt : ∀ (v : vs_T) (D : am_D) (L : am_L), vok v → ix D v → im D v → am_Wp true n cdL_law fnL_law lw_K 18 [some (.ref 79), some (.ref 0), some (.ref 49), some (.int (nI (i + 6)))] [] D L) : am_Wp true n cdL_law fnL_law lw_K 495 [some (.ref 79), some (.ref 0), some (.ref 49), some (.int (nI i))] [] D L := by
  have n6 : nI i + 6 = nI (i + 6) := by rw [show (6 : Int32) = nI 6 by decide +kernel, nI_add]
  have i1 : vp_in (nI i + 1) n := by rw [show (1 : Int32) = nI 1 by decide +kernel, nI_add]; exact vp_in_nI (by omega) (by omega)
  have i2 : vp_in (nI i + 2) n := by rw [show (2 : Int32) = nI 2 by decide +kernel, nI_add]; exact vp_in_nI (by omega) (by omega)
  have i3 : vp_in (nI i + 3) n := by rw [show (3 : Int32) = nI 3 by decide +kernel, nI_add]; exact vp_in_nI (by omega) (by omega)
  refine am_Wp_bl mfL_law [18] 60 _ _ _ _ _ ?_
  (repeat ((conv => whnf); (first | refine zo0 ?_ | refine zo1 ?_ | refine br_z ?_ | refine br_o ?_ | refine br_zn ?_ | refine br_on ?_ | refine nz2 ?_ | refine nz6 ?_ | refine nz32 ?_ | refine And.intro (by assumption) ?_))); (conv => whnf)
  refine ⟨v, hv, hx, fun D1 L1 f1 i1 => ?_⟩
  have m1 : im D1 v := im_fc hm f1
  (repeat ((conv => whnf); (first | refine zo0 ?_ | refine zo1 ?_ | refine br_z ?_ | refine br_o ?_ | refine br_zn ?_ | refine br_on ?_ | refine nz2 ?_ | refine nz6 ?_ | refine nz32 ?_ | refine And.intro (by assumption) ?_))); (conv => whnf)
  rw [f1 79 (by decide)]
  refine ⟨v, hv, m1, fun D2 f2 => ?_⟩
  (repeat ((conv => whnf); (first | refine zo0 ?_ | refine zo1 ?_ | refine br_z ?_ | refine br_o ?_ | refine br_zn ?_ | refine br_on ?_ | refine nz2 ?_ | refine nz6 ?_ | refine nz32 ?_ | refine And.intro (by assumption) ?_))); (conv => whnf)
  refine ⟨fun _ => ?_, fun q => absurd rfl q⟩
  (repeat ((conv => whnf); (first | refine zo0 ?_ | refine zo1 ?_ | refine br_z ?_ | refine br_o ?_ | refine br_zn ?_ | refine br_on ?_ | refine nz2 ?_ | refine nz6 ?_ | refine nz32 ?_ | refine And.intro (by assumption) ?_))); (conv => whnf)
  rw [n6]
  exact nxt v D2 L1 hv (ix_fo i1 (fo_fq f2)) (im_fq m1 f2)
set_option maxHeartbeats 4000000 in
theorem lw_c12 {n i : Nat} {v : vs_T} {D : am_D} {L : am_L} (hn : n ≤ 3072) (h6 : i + 6 ≤ n) (hv : vok v) (hx : ix D v) (hm : im D v) (nxt : ∀ (v : vs_T) (D : am_D) (L : am_L), vok v → ix D v → im D v → am_Wp true n cdL_law fnL_law lw_K 18 [some (.ref 79), some (.ref 0), some (.ref 49), some (.int (nI (i + 6)))] [] D L) : am_Wp true n cdL_law fnL_law lw_K 538 [some (.ref 79), some (.ref 0), some (.ref 49), some (.int (nI i))] [] D L := by
  have n6 : nI i + 6 = nI (i + 6) := by rw [show (6 : Int32) = nI 6 by decide +kernel, nI_add]
  have i1 : vp_in (nI i + 1) n := by rw [show (1 : Int32) = nI 1 by decide +kernel, nI_add]; exact vp_in_nI (by omega) (by omega)
  refine am_Wp_bl mfL_law [18] 60 _ _ _ _ _ ?_
  (repeat ((conv => whnf); (first | refine zo0 ?_ | refine zo1 ?_ | refine br_z ?_ | refine br_o ?_ | refine br_zn ?_ | refine br_on ?_ | refine nz2 ?_ | refine nz6 ?_ | refine nz32 ?_ | refine And.intro (by assumption) ?_))); (conv => whnf)
  refine ⟨v, hv, hx, fun D1 L1 f1 i1 => ?_⟩
  have m1 : im D1 v := im_fc hm f1
  (repeat ((conv => whnf); (first | refine zo0 ?_ | refine zo1 ?_ | refine br_z ?_ | refine br_o ?_ | refine br_zn ?_ | refine br_on ?_ | refine nz2 ?_ | refine nz6 ?_ | refine nz32 ?_ | refine And.intro (by assumption) ?_))); (conv => whnf)
  rw [f1 79 (by decide)]
  refine ⟨v, hv, m1, fun D2 f2 => ?_⟩
  (repeat ((conv => whnf); (first | refine zo0 ?_ | refine zo1 ?_ | refine br_z ?_ | refine br_o ?_ | refine br_zn ?_ | refine br_on ?_ | refine nz2 ?_ | refine nz6 ?_ | refine nz32 ?_ | refine And.intro (by assumption) ?_))); (conv => whnf)
  refine ⟨fun _ => ?_, fun q => absurd rfl q⟩
  (repeat ((conv => whnf); (first | refine zo0 ?_ | refine zo1 ?_ | refine br_z ?_ | refine br_o ?_ | refine br_zn ?_ | refine br_on ?_ | refine nz2 ?_ | refine nz6 ?_ | refine nz32 ?_ | refine And.intro (by assumption) ?_))); (conv => whnf)
  rw [n6]
  exact nxt v D2 L1 hv (ix_fo i1 (fo_fq f2)) (im_fq m1 f2)
set_option maxHeartbeats 4000000 in
theorem lw_c13 {n i : Nat} {v : vs_T} {D : am_D} {L : am_L} (hn : n ≤ 3072) (h6 : i + 6 ≤ n) (hv : vok v) (hx : ix D v) (hm : im D v) (nxt : ∀ (v : vs_T) (D : am_D) (L : am_L), vok v → ix D v → im D v → am_Wp true n cdL_law fnL_law lw_K 18 [some (.ref 79), some (.ref 0), some (.ref 49), some (.int (nI (i + 6)))] [] D L) : am_Wp true n cdL_law fnL_law lw_K 561 [some (.ref 79), some (.ref 0), some (.ref 49), some (.int (nI i))] [] D L := by
  have n6 : nI i + 6 = nI (i + 6) := by rw [show (6 : Int32) = nI 6 by decide +kernel, nI_add]
  have i1 : vp_in (nI i + 1) n := by rw [show (1 : Int32) = nI 1 by decide +kernel, nI_add]; exact vp_in_nI (by omega) (by omega)
  refine am_Wp_bl mfL_law [18] 60 _ _ _ _ _ ?_
  (repeat ((conv => whnf); (first | refine zo0 ?_ | refine zo1 ?_ | refine br_z ?_ | refine br_o ?_ | refine br_zn ?_ | refine br_on ?_ | refine nz2 ?_ | refine nz6 ?_ | refine nz32 ?_ | refine And.intro (by assumption) ?_))); (conv => whnf)
  refine ⟨v, hv, hx, fun D1 L1 f1 i1 => ?_⟩
  have m1 : im D1 v := im_fc hm f1
  (repeat ((conv => whnf); (first | refine zo0 ?_ | refine zo1 ?_ | refine br_z ?_ | refine br_o ?_ | refine br_zn ?_ | refine br_on ?_ | refine nz2 ?_ | refine nz6 ?_ | refine nz32 ?_ | refine And.intro (by assumption) ?_))); (conv => whnf)
  rw [f1 79 (by decide)]
  refine ⟨v, hv, m1, fun D2 f2 => ?_⟩
  (repeat ((conv => whnf); (first | refine zo0 ?_ | refine zo1 ?_ | refine br_z ?_ | refine br_o ?_ | refine br_zn ?_ | refine br_on ?_ | refine nz2 ?_ | refine nz6 ?_ | refine nz32 ?_ | refine And.intro (by assumption) ?_))); (conv => whnf)
  refine ⟨fun _ => ?_, fun q => absurd rfl q⟩
  (repeat ((conv => whnf); (first | refine zo0 ?_ | refine zo1 ?_ | refine br_z ?_ | refine br_o ?_ | refine br_zn ?_ | refine br_on ?_ | refine nz2 ?_ | refine nz6 ?_ | refine nz32 ?_ | refine And.intro (by assumption) ?_))); (conv => whnf)
  rw [n6]
  exact nxt v D2 L1 hv (ix_fo i1 (fo_fq f2)) (im_fq m1 f2)
set_option maxHeartbeats 4000000 in
theorem lw_c14 {n i : Nat} {v : vs_T} {D : am_D} {L : am_L} (hn : n ≤ 3072) (h6 : i + 6 ≤ n) (hv : vok v) (hx : ix D v) (hm : im D v) (nxt : ∀ (v : vs_T) (D : am_D) (L : am_L), vok v → ix D v → im D v → am_Wp true n cdL_law fnL_law lw_K 18 [some (.ref 79), some (.ref 0), some (.ref 49), some (.int (nI (i + 6)))] [] D L) : am_Wp true n cdL_law fnL_law lw_K 584 [some (.ref 79), some (.ref 0), some (.ref 49), some (.int (nI i))] [] D L := by
  have n6 : nI i + 6 = nI (i + 6) := by rw [show (6 : Int32) = nI 6 by decide +kernel, nI_add]
  refine am_Wp_bl mfL_law [18] 60 _ _ _ _ _ ?_
  (repeat ((conv => whnf); (first | refine zo0 ?_ | refine zo1 ?_ | refine br_z ?_ | refine br_o ?_ | refine br_zn ?_ | refine br_on ?_ | refine nz2 ?_ | refine nz6 ?_ | refine nz32 ?_ | refine And.intro (by assumption) ?_))); (conv => whnf)
  refine ⟨v, hv, hx, fun D1 L1 f1 i1 => ?_⟩
  have m1 : im D1 v := im_fc hm f1
  (repeat ((conv => whnf); (first | refine zo0 ?_ | refine zo1 ?_ | refine br_z ?_ | refine br_o ?_ | refine br_zn ?_ | refine br_on ?_ | refine nz2 ?_ | refine nz6 ?_ | refine nz32 ?_ | refine And.intro (by assumption) ?_))); (conv => whnf)
  refine ⟨v, hv, m1, fun D2 f2 => ?_⟩
  (repeat ((conv => whnf); (first | refine zo0 ?_ | refine zo1 ?_ | refine br_z ?_ | refine br_o ?_ | refine br_zn ?_ | refine br_on ?_ | refine nz2 ?_ | refine nz6 ?_ | refine nz32 ?_ | refine And.intro (by assumption) ?_))); (conv => whnf)
  refine ⟨fun _ => ?_, fun q => absurd rfl q⟩
  (repeat ((conv => whnf); (first | refine zo0 ?_ | refine zo1 ?_ | refine br_z ?_ | refine br_o ?_ | refine br_zn ?_ | refine br_on ?_ | refine nz2 ?_ | refine nz6 ?_ | refine nz32 ?_ | refine And.intro (by assumption) ?_))); (conv => whnf)
  rw [n6]
  exact nxt v D2 L1 hv (ix_fo i1 (fo_fq f2)) (im_fq m1 f2)
set_option maxHeartbeats 4000000 in
theorem lw_c15 {n i : Nat} {v : vs_T} {D : am_D} {L : am_L} (hn : n ≤ 3072) (h6 : i + 6 ≤ n) (hv : vok v) (hx : ix D v) (hm : im D v) (nxt : ∀ (v : vs_T) (D : am_D) (L : am_L), vok v → ix D v → im D v → am_Wp true n cdL_law fnL_law lw_K 18 [some (.ref 79), some (.ref 0), some (.ref 49), some (.int (nI (i + 6)))] [] D L) : am_Wp true n cdL_law fnL_law lw_K 597 [some (.ref 79), some (.ref 0), some (.ref 49), some (.int (nI i))] [] D L := by
  have n6 : nI i + 6 = nI (i + 6) := by rw [show (6 : Int32) = nI 6 by decide +kernel, nI_add]
  refine am_Wp_bl mfL_law [18] 60 _ _ _ _ _ ?_
  (repeat ((conv => whnf); (first | refine zo0 ?_ | refine zo1 ?_ | refine br_z ?_ | refine br_o ?_ | refine br_zn ?_ | refine br_on ?_ | refine nz2 ?_ | refine nz6 ?_ | refine nz32 ?_ | refine And.intro (by assumption) ?_))); (conv => whnf)
  refine ⟨v, hv, hx, fun D1 L1 f1 i1 => ?_⟩
  have m1 : im D1 v := im_fc hm f1
  (repeat ((conv => whnf); (first | refine zo0 ?_ | refine zo1 ?_ | refine br_z ?_ | refine br_o ?_ | refine br_zn ?_ | refine br_on ?_ | refine nz2 ?_ | refine nz6 ?_ | refine nz32 ?_ | refine And.intro (by assumption) ?_))); (conv => whnf)
  refine ⟨v, hv, m1, fun D2 f2 => ?_⟩
  (repeat ((conv => whnf); (first | refine zo0 ?_ | refine zo1 ?_ | refine br_z ?_ | refine br_o ?_ | refine br_zn ?_ | refine br_on ?_ | refine nz2 ?_ | refine nz6 ?_ | refine nz32 ?_ | refine And.intro (by assumption) ?_))); (conv => whnf)
  refine ⟨fun _ => ?_, fun q => absurd rfl q⟩
  (repeat ((conv => whnf); (first | refine zo0 ?_ | refine zo1 ?_ | refine br_z ?_ | refine br_o ?_ | refine br_zn ?_ | refine br_on ?_ | refine nz2 ?_ | refine nz6 ?_ | refine nz32 ?_ | refine And.intro (by assumption) ?_))); (conv => whnf)
  rw [n6]
  exact nxt v D2 L1 hv (ix_fo i1 (fo_fq f2)) (im_fq m1 f2)
set_option maxHeartbeats 4000000 in
theorem lw_c16 {n i : Nat} {v : vs_T} {D : am_D} {L : am_L} (hn : n ≤ 3072) (h6 : i + 6 ≤ n) (hv : vok v) (hx : ix D v) (hm : im D v) (nxt : ∀ (v : vs_T) (D : am_D) (L : am_L), vok v → ix D v → im D v → am_Wp true n cdL_law fnL_law lw_K 18 [some (.ref 79), some (.ref 0), some (.ref 49), some (.int (nI (i + 6)))] [] D L) : am_Wp true n cdL_law fnL_law lw_K 610 [some (.ref 79), some (.ref 0), some (.ref 49), some (.int (nI i))] [] D L := by
  have n6 : nI i + 6 = nI (i + 6) := by rw [show (6 : Int32) = nI 6 by decide +kernel, nI_add]
  have i1 : vp_in (nI i + 1) n := by rw [show (1 : Int32) = nI 1 by decide +kernel, nI_add]; exact vp_in_nI (by omega) (by omega)
  refine am_Wp_bl mfL_law [18] 60 _ _ _ _ _ ?_
  (repeat ((conv => whnf); (first | refine zo0 ?_ | refine zo1 ?_ | refine br_z ?_ | refine br_o ?_ | refine br_zn ?_ | refine br_on ?_ | refine nz2 ?_ | refine nz6 ?_ | refine nz32 ?_ | refine And.intro (by assumption) ?_))); (conv => whnf)
  refine ⟨v, hv, hx, fun D1 L1 f1 i1 => ?_⟩
  have m1 : im D1 v := im_fc hm f1
  (repeat ((conv => whnf); (first | refine zo0 ?_ | refine zo1 ?_ | refine br_z ?_ | refine br_o ?_ | refine br_zn ?_ | refine br_on ?_ | refine nz2 ?_ | refine nz6 ?_ | refine nz32 ?_ | refine And.intro (by assumption) ?_))); (conv => whnf)
  rw [f1 79 (by decide)]
  refine ⟨v, hv, m1, fun D2 f2 => ?_⟩
  (repeat ((conv => whnf); (first | refine zo0 ?_ | refine zo1 ?_ | refine br_z ?_ | refine br_o ?_ | refine br_zn ?_ | refine br_on ?_ | refine nz2 ?_ | refine nz6 ?_ | refine nz32 ?_ | refine And.intro (by assumption) ?_))); (conv => whnf)
  refine ⟨fun _ => ?_, fun q => absurd rfl q⟩
  (repeat ((conv => whnf); (first | refine zo0 ?_ | refine zo1 ?_ | refine br_z ?_ | refine br_o ?_ | refine br_zn ?_ | refine br_on ?_ | refine nz2 ?_ | refine nz6 ?_ | refine nz32 ?_ | refine And.intro (by assumption) ?_))); (conv => whnf)
  rw [n6]
  exact nxt v D2 L1 hv (ix_fo i1 (fo_fq f2)) (im_fq m1 f2)
set_option maxHeartbeats 4000000 in
theorem lw_c17 {n i : Nat} {v : vs_T} {D : am_D} {L : am_L} (hn : n ≤ 3072) (h6 : i + 6 ≤ n) (hv : vok v) (hx : ix D v) (hm : im D v) (nxt : ∀ (v : vs_T) (D : am_D) (L : am_L), vok v → ix D v → im D v → am_Wp true n cdL_law fnL_law lw_K 18 [some (.ref 79), some (.ref 0), some (.ref 49), some (.int (nI (i + 6)))] [] D L) : am_Wp true n cdL_law fnL_law lw_K 633 [some (.ref 79), some (.ref 0), some (.ref 49), some (.int (nI i))] [] D L := by
  have n6 : nI i + 6 = nI (i + 6) := by rw [show (6 : Int32) = nI 6 by decide +kernel, nI_add]
  have i1 : vp_in (nI i + 1) n := by rw [show (1 : Int32) = nI 1 by decide +kernel, nI_add]; exact vp_in_nI (by omega) (by omega)
  refine am_Wp_bl mfL_law [18] 60 _ _ _ _ _ ?_
  (repeat ((conv => whnf); (first | refine zo0 ?_ | refine zo1 ?_ | refine br_z ?_ | refine br_o ?_ | refine br_zn ?_ | refine br_on ?_ | refine nz2 ?_ | refine nz6 ?_ | refine nz32 ?_ | refine And.intro (by assumption) ?_))); (conv => whnf)
  refine ⟨v, hv, hx, fun D1 L1 f1 i1 => ?_⟩
  have m1 : im D1 v := im_fc hm f1
  (repeat ((conv => whnf); (first | refine zo0 ?_ | refine zo1 ?_ | refine br_z ?_ | refine br_o ?_ | refine br_zn ?_ | refine br_on ?_ | refine nz2 ?_ | refine nz6 ?_ | refine nz32 ?_ | refine And.intro (by assumption) ?_))); (conv => whnf)
  rw [f1 79 (by decide)]
  refine ⟨v, hv, m1, fun D2 f2 => ?_⟩
  (repeat ((conv => whnf); (first | refine zo0 ?_ | refine zo1 ?_ | refine br_z ?_ | refine br_o ?_ | refine br_zn ?_ | refine br_on ?_ | refine nz2 ?_ | refine nz6 ?_ | refine nz32 ?_ | refine And.intro (by assumption) ?_))); (conv => whnf)
  refine ⟨fun _ => ?_, fun q => absurd rfl q⟩
  (repeat ((conv => whnf); (first | refine zo0 ?_ | refine zo1 ?_ | refine br_z ?_ | refine br_o ?_ | refine br_zn ?_ | refine br_on ?_ | refine nz2 ?_ | refine nz6 ?_ | refine nz32 ?_ | refine And.intro (by assumption) ?_))); (conv => whnf)
  rw [n6]
  exact nxt v D2 L1 hv (ix_fo i1 (fo_fq f2)) (im_fq m1 f2)
set_option maxHeartbeats 4000000 in
theorem lw_c18 {n i : Nat} {v : vs_T} {D : am_D} {L : am_L} (hn : n ≤ 3072) (h6 : i + 6 ≤ n) (hv : vok v) (hx : ix D v) (hm : im D v) (nxt : ∀ (v : vs_T) (D : am_D) (L : am_L), vok v → ix D v → im D v → am_Wp true n cdL_law fnL_law lw_K 18 [some (.ref 79), some (.ref 0), some (.ref 49), some (.int (nI (i + 6)))] [] D L) : am_Wp true n cdL_law fnL_law lw_K 656 [some (.ref 79), some (.ref 0), some (.ref 49), some (.int (nI i))] [] D L := by
  have n6 : nI i + 6 = nI (i + 6) := by rw [show (6 : Int32) = nI 6 by decide +kernel, nI_add]
  have i1 : vp_in (nI i + 1) n := by rw [show (1 : Int32) = nI 1 by decide +kernel, nI_add]; exact vp_in_nI (by omega) (by omega)
  refine am_Wp_bl mfL_law [18] 60 _ _ _ _ _ ?_
  (repeat ((conv => whnf); (first | refine zo0 ?_ | refine zo1 ?_ | refine br_z ?_ | refine br_o ?_ | refine br_zn ?_ | refine br_on ?_ | refine nz2 ?_ | refine nz6 ?_ | refine nz32 ?_ | refine And.intro (by assumption) ?_))); (conv => whnf)
  refine ⟨v, hv, hx, fun D1 L1 f1 i1 => ?_⟩
  have m1 : im D1 v := im_fc hm f1
  (repeat ((conv => whnf); (first | refine zo0 ?_ | refine zo1 ?_ | refine br_z ?_ | refine br_o ?_ | refine br_zn ?_ | refine br_on ?_ | refine nz2 ?_ | refine nz6 ?_ | refine nz32 ?_ | refine And.intro (by assumption) ?_))); (conv => whnf)
  rw [f1 79 (by decide)]
  refine ⟨v, hv, m1, fun D2 f2 => ?_⟩
  (repeat ((conv => whnf); (first | refine zo0 ?_ | refine zo1 ?_ | refine br_z ?_ | refine br_o ?_ | refine br_zn ?_ | refine br_on ?_ | refine nz2 ?_ | refine nz6 ?_ | refine nz32 ?_ | refine And.intro (by assumption) ?_))); (conv => whnf)
  refine ⟨fun _ => ?_, fun q => absurd rfl q⟩
  (repeat ((conv => whnf); (first | refine zo0 ?_ | refine zo1 ?_ | refine br_z ?_ | refine br_o ?_ | refine br_zn ?_ | refine br_on ?_ | refine nz2 ?_ | refine nz6 ?_ | refine nz32 ?_ | refine And.intro (by assumption) ?_))); (conv => whnf)
  rw [n6]
  exact nxt v D2 L1 hv (ix_fo i1 (fo_fq f2)) (im_fq m1 f2)
set_option maxHeartbeats 4000000 in
theorem lw_c19 {n i : Nat} {v : vs_T} {D : am_D} {L : am_L} (hn : n ≤ 3072) (h6 : i + 6 ≤ n) (hv : vok v) (hx : ix D v) (hm : im D v) (nxt : ∀ (v : vs_T) (D : am_D) (L : am_L), vok v → ix D v → im D v → am_Wp true n cdL_law fnL_law lw_K 18 [some (.ref 79), some (.ref 0), some (.ref 49), some (.int (nI (i + 6)))] [] D L) : am_Wp true n cdL_law fnL_law lw_K 679 [some (.ref 79), some (.ref 0), some (.ref 49), some (.int (nI i))] [] D L := by
  have n6 : nI i + 6 = nI (i + 6) := by rw [show (6 : Int32) = nI 6 by decide +kernel, nI_add]
  have i1 : vp_in (nI i + 1) n := by rw [show (1 : Int32) = nI 1 by decide +kernel, nI_add]; exact vp_in_nI (by omega) (by omega)
  refine am_Wp_bl mfL_law [18] 60 _ _ _ _ _ ?_
  (repeat ((conv => whnf); (first | refine zo0 ?_ | refine zo1 ?_ | refine br_z ?_ | refine br_o ?_ | refine br_zn ?_ | refine br_on ?_ | refine nz2 ?_ | refine nz6 ?_ | refine nz32 ?_ | refine And.intro (by assumption) ?_))); (conv => whnf)
  refine ⟨v, hv, hx, fun D1 L1 f1 i1 => ?_⟩
  have m1 : im D1 v := im_fc hm f1
  (repeat ((conv => whnf); (first | refine zo0 ?_ | refine zo1 ?_ | refine br_z ?_ | refine br_o ?_ | refine br_zn ?_ | refine br_on ?_ | refine nz2 ?_ | refine nz6 ?_ | refine nz32 ?_ | refine And.intro (by assumption) ?_))); (conv => whnf)
  rw [f1 79 (by decide)]
  refine ⟨v, hv, m1, fun D2 f2 => ?_⟩
  (repeat ((conv => whnf); (first | refine zo0 ?_ | refine zo1 ?_ | refine br_z ?_ | refine br_o ?_ | refine br_zn ?_ | refine br_on ?_ | refine nz2 ?_ | refine nz6 ?_ | refine nz32 ?_ | refine And.intro (by assumption) ?_))); (conv => whnf)
  refine ⟨fun _ => ?_, fun q => absurd rfl q⟩
  (repeat ((conv => whnf); (first | refine zo0 ?_ | refine zo1 ?_ | refine br_z ?_ | refine br_o ?_ | refine br_zn ?_ | refine br_on ?_ | refine nz2 ?_ | refine nz6 ?_ | refine nz32 ?_ | refine And.intro (by assumption) ?_))); (conv => whnf)
  rw [n6]
  exact nxt v D2 L1 hv (ix_fo i1 (fo_fq f2)) (im_fq m1 f2)
set_option maxHeartbeats 4000000 in
theorem lw_c20 {n i : Nat} {v : vs_T} {D : am_D} {L : am_L} (hn : n ≤ 3072) (h6 : i + 6 ≤ n) (hv : vok v) (hx : ix D v) (hm : im D v) (nxt : ∀ (v : vs_T) (D : am_D) (L : am_L), vok v → ix D v → im D v → am_Wp true n cdL_law fnL_law lw_K 18 [some (.ref 79), some (.ref 0), some (.ref 49), some (.int (nI (i + 6)))] [] D L) : am_Wp true n cdL_law fnL_law lw_K 702 [some (.ref 79), some (.ref 0), some (.ref 49), some (.int (nI i))] [] D L := by
  have n6 : nI i + 6 = nI (i + 6) := by rw [show (6 : Int32) = nI 6 by decide +kernel, nI_add]
  have i1 : vp_in (nI i + 1) n := by rw [show (1 : Int32) = nI 1 by decide +kernel, nI_add]; exact vp_in_nI (by omega) (by omega)
  have i2 : vp_in (nI i + 2) n := by rw [show (2 : Int32) = nI 2 by decide +kernel, nI_add]; exact vp_in_nI (by omega) (by omega)
  refine am_Wp_bl mfL_law [18] 60 _ _ _ _ _ ?_
  (repeat ((conv => whnf); (first | refine zo0 ?_ | refine zo1 ?_ | refine br_z ?_ | refine br_o ?_ | refine br_zn ?_ | refine br_on ?_ | refine nz2 ?_ | refine nz6 ?_ | refine nz32 ?_ | refine And.intro (by assumption) ?_))); (conv => whnf)
  refine ⟨v, hv, hx, fun D1 L1 f1 i1 => ?_⟩
  have m1 : im D1 v := im_fc hm f1
  (repeat ((conv => whnf); (first | refine zo0 ?_ | refine zo1 ?_ | refine br_z ?_ | refine br_o ?_ | refine br_zn ?_ | refine br_on ?_ | refine nz2 ?_ | refine nz6 ?_ | refine nz32 ?_ | refine And.intro (by assumption) ?_))); (conv => whnf)
  rw [f1 79 (by decide)]
  refine ⟨v, hv, m1, fun D2 f2 m2 => ?_⟩
  (repeat ((conv => whnf); (first | refine zo0 ?_ | refine zo1 ?_ | refine br_z ?_ | refine br_o ?_ | refine br_zn ?_ | refine br_on ?_ | refine nz2 ?_ | refine nz6 ?_ | refine nz32 ?_ | refine And.intro (by assumption) ?_))); (conv => whnf)
  refine ⟨fun _ => ?_, fun q => absurd rfl q⟩
  (repeat ((conv => whnf); (first | refine zo0 ?_ | refine zo1 ?_ | refine br_z ?_ | refine br_o ?_ | refine br_zn ?_ | refine br_on ?_ | refine nz2 ?_ | refine nz6 ?_ | refine nz32 ?_ | refine And.intro (by assumption) ?_))); (conv => whnf)
  rw [n6]
  exact nxt _ D2 L1 (vok_seen hv) (ix_fo i1 f2) m2
set_option maxHeartbeats 4000000 in
theorem lw_c21 {n i : Nat} {v : vs_T} {D : am_D} {L : am_L} (hn : n ≤ 3072) (h6 : i + 6 ≤ n) (hv : vok v) (hx : ix D v) (hm : im D v) (nxt : ∀ (v : vs_T) (D : am_D) (L : am_L), vok v → ix D v → im D v → am_Wp true n cdL_law fnL_law lw_K 18 [some (.ref 79), some (.ref 0), some (.ref 49), some (.int (nI (i + 6)))] [] D L) : am_Wp true n cdL_law fnL_law lw_K 735 [some (.ref 79), some (.ref 0), some (.ref 49), some (.int (nI i))] [] D L := by
  have n6 : nI i + 6 = nI (i + 6) := by rw [show (6 : Int32) = nI 6 by decide +kernel, nI_add]
  refine am_Wp_bl mfL_law [18] 60 _ _ _ _ _ ?_
  (repeat ((conv => whnf); (first | refine zo0 ?_ | refine zo1 ?_ | refine br_z ?_ | refine br_o ?_ | refine br_zn ?_ | refine br_on ?_ | refine nz2 ?_ | refine nz6 ?_ | refine nz32 ?_ | refine And.intro (by assumption) ?_))); (conv => whnf)
  refine ⟨v, hv, hx, fun D1 L1 f1 i1 => ?_⟩
  have m1 : im D1 v := im_fc hm f1
  (repeat ((conv => whnf); (first | refine zo0 ?_ | refine zo1 ?_ | refine br_z ?_ | refine br_o ?_ | refine br_zn ?_ | refine br_on ?_ | refine nz2 ?_ | refine nz6 ?_ | refine nz32 ?_ | refine And.intro (by assumption) ?_))); (conv => whnf)
  refine ⟨v, hv, m1, fun D2 f2 m2 => ?_⟩
  (repeat ((conv => whnf); (first | refine zo0 ?_ | refine zo1 ?_ | refine br_z ?_ | refine br_o ?_ | refine br_zn ?_ | refine br_on ?_ | refine nz2 ?_ | refine nz6 ?_ | refine nz32 ?_ | refine And.intro (by assumption) ?_))); (conv => whnf)
  refine ⟨fun _ => ?_, fun q => absurd rfl q⟩
  (repeat ((conv => whnf); (first | refine zo0 ?_ | refine zo1 ?_ | refine br_z ?_ | refine br_o ?_ | refine br_zn ?_ | refine br_on ?_ | refine nz2 ?_ | refine nz6 ?_ | refine nz32 ?_ | refine And.intro (by assumption) ?_))); (conv => whnf)
  rw [n6]
  exact nxt _ D2 L1 (vok_forget hv) (ix_fo i1 f2) m2
set_option maxHeartbeats 4000000 in
theorem lw_c22 {n i : Nat} {v : vs_T} {D : am_D} {L : am_L} (hn : n ≤ 3072) (h6 : i + 6 ≤ n) (hv : vok v) (hx : ix D v) (hm : im D v) (nxt : ∀ (v : vs_T) (D : am_D) (L : am_L), vok v → ix D v → im D v → am_Wp true n cdL_law fnL_law lw_K 18 [some (.ref 79), some (.ref 0), some (.ref 49), some (.int (nI (i + 6)))] [] D L) : am_Wp true n cdL_law fnL_law lw_K 748 [some (.ref 79), some (.ref 0), some (.ref 49), some (.int (nI i))] [] D L := by
  have n6 : nI i + 6 = nI (i + 6) := by rw [show (6 : Int32) = nI 6 by decide +kernel, nI_add]
  refine am_Wp_bl mfL_law [18] 60 _ _ _ _ _ ?_
  (repeat ((conv => whnf); (first | refine zo0 ?_ | refine zo1 ?_ | refine br_z ?_ | refine br_o ?_ | refine br_zn ?_ | refine br_on ?_ | refine nz2 ?_ | refine nz6 ?_ | refine nz32 ?_ | refine And.intro (by assumption) ?_))); (conv => whnf)
  refine ⟨v, hv, hx, fun D1 L1 f1 i1 => ?_⟩
  have m1 : im D1 v := im_fc hm f1
  (repeat ((conv => whnf); (first | refine zo0 ?_ | refine zo1 ?_ | refine br_z ?_ | refine br_o ?_ | refine br_zn ?_ | refine br_on ?_ | refine nz2 ?_ | refine nz6 ?_ | refine nz32 ?_ | refine And.intro (by assumption) ?_))); (conv => whnf)
  refine ⟨v, hv, m1, fun D2 f2 => ?_⟩
  (repeat ((conv => whnf); (first | refine zo0 ?_ | refine zo1 ?_ | refine br_z ?_ | refine br_o ?_ | refine br_zn ?_ | refine br_on ?_ | refine nz2 ?_ | refine nz6 ?_ | refine nz32 ?_ | refine And.intro (by assumption) ?_))); (conv => whnf)
  refine ⟨fun _ => ?_, fun q => absurd rfl q⟩
  (repeat ((conv => whnf); (first | refine zo0 ?_ | refine zo1 ?_ | refine br_z ?_ | refine br_o ?_ | refine br_zn ?_ | refine br_on ?_ | refine nz2 ?_ | refine nz6 ?_ | refine nz32 ?_ | refine And.intro (by assumption) ?_))); (conv => whnf)
  rw [n6]
  exact nxt v D2 L1 hv (ix_fo i1 (fo_fq f2)) (im_fq m1 f2)
set_option maxHeartbeats 4000000 in
theorem lw_c23 {n i : Nat} {v : vs_T} {D : am_D} {L : am_L} (hn : n ≤ 3072) (h6 : i + 6 ≤ n) (hv : vok v) (hx : ix D v) (hm : im D v) (nxt : ∀ (v : vs_T) (D : am_D) (L : am_L), vok v → ix D v → im D v → am_Wp true n cdL_law fnL_law lw_K 18 [some (.ref 79), some (.ref 0), some (.ref 49), some (.int (nI (i + 6)))] [] D L) : am_Wp true n cdL_law fnL_law lw_K 761 [some (.ref 79), some (.ref 0), some (.ref 49), some (.int (nI i))] [] D L := by
  have n6 : nI i + 6 = nI (i + 6) := by rw [show (6 : Int32) = nI 6 by decide +kernel, nI_add]
  have i1 : vp_in (nI i + 1) n := by rw [show (1 : Int32) = nI 1 by decide +kernel, nI_add]; exact vp_in_nI (by omega) (by omega)
  refine am_Wp_bl mfL_law [18] 60 _ _ _ _ _ ?_
  (repeat ((conv => whnf); (first | refine zo0 ?_ | refine zo1 ?_ | refine br_z ?_ | refine br_o ?_ | refine br_zn ?_ | refine br_on ?_ | refine nz2 ?_ | refine nz6 ?_ | refine nz32 ?_ | refine And.intro (by assumption) ?_))); (conv => whnf)
  refine ⟨v, hv, hx, fun D1 L1 f1 i1 => ?_⟩
  have m1 : im D1 v := im_fc hm f1
  (repeat ((conv => whnf); (first | refine zo0 ?_ | refine zo1 ?_ | refine br_z ?_ | refine br_o ?_ | refine br_zn ?_ | refine br_on ?_ | refine nz2 ?_ | refine nz6 ?_ | refine nz32 ?_ | refine And.intro (by assumption) ?_))); (conv => whnf)
  rw [f1 79 (by decide)]
  refine ⟨v, hv, m1, fun D2 f2 => ?_⟩
  (repeat ((conv => whnf); (first | refine zo0 ?_ | refine zo1 ?_ | refine br_z ?_ | refine br_o ?_ | refine br_zn ?_ | refine br_on ?_ | refine nz2 ?_ | refine nz6 ?_ | refine nz32 ?_ | refine And.intro (by assumption) ?_))); (conv => whnf)
  refine ⟨fun _ => ?_, fun q => absurd rfl q⟩
  (repeat ((conv => whnf); (first | refine zo0 ?_ | refine zo1 ?_ | refine br_z ?_ | refine br_o ?_ | refine br_zn ?_ | refine br_on ?_ | refine nz2 ?_ | refine nz6 ?_ | refine nz32 ?_ | refine And.intro (by assumption) ?_))); (conv => whnf)
  rw [n6]
  exact nxt v D2 L1 hv (ix_fo i1 (fo_fq f2)) (im_fq m1 f2)
set_option maxHeartbeats 4000000 in
theorem lw_c24 {n i : Nat} {v : vs_T} {D : am_D} {L : am_L} (hn : n ≤ 3072) (h6 : i + 6 ≤ n) (hv : vok v) (hx : ix D v) (hm : im D v) (nxt : ∀ (v : vs_T) (D : am_D) (L : am_L), vok v → ix D v → im D v → am_Wp true n cdL_law fnL_law lw_K 18 [some (.ref 79), some (.ref 0), some (.ref 49), some (.int (nI (i + 6)))] [] D L) : am_Wp true n cdL_law fnL_law lw_K 784 [some (.ref 79), some (.ref 0), some (.ref 49), some (.int (nI i))] [] D L := by
  have n6 : nI i + 6 = nI (i + 6) := by rw [show (6 : Int32) = nI 6 by decide +kernel, nI_add]
  have i1 : vp_in (nI i + 1) n := by rw [show (1 : Int32) = nI 1 by decide +kernel, nI_add]; exact vp_in_nI (by omega) (by omega)
  refine am_Wp_bl mfL_law [18] 60 _ _ _ _ _ ?_
  (repeat ((conv => whnf); (first | refine zo0 ?_ | refine zo1 ?_ | refine br_z ?_ | refine br_o ?_ | refine br_zn ?_ | refine br_on ?_ | refine nz2 ?_ | refine nz6 ?_ | refine nz32 ?_ | refine And.intro (by assumption) ?_))); (conv => whnf)
  refine ⟨v, hv, hx, fun D1 L1 f1 i1 => ?_⟩
  have m1 : im D1 v := im_fc hm f1
  (repeat ((conv => whnf); (first | refine zo0 ?_ | refine zo1 ?_ | refine br_z ?_ | refine br_o ?_ | refine br_zn ?_ | refine br_on ?_ | refine nz2 ?_ | refine nz6 ?_ | refine nz32 ?_ | refine And.intro (by assumption) ?_))); (conv => whnf)
  rw [f1 79 (by decide)]
  refine ⟨v, hv, m1, fun D2 f2 => ?_⟩
  (repeat ((conv => whnf); (first | refine zo0 ?_ | refine zo1 ?_ | refine br_z ?_ | refine br_o ?_ | refine br_zn ?_ | refine br_on ?_ | refine nz2 ?_ | refine nz6 ?_ | refine nz32 ?_ | refine And.intro (by assumption) ?_))); (conv => whnf)
  refine ⟨fun _ => ?_, fun q => absurd rfl q⟩
  (repeat ((conv => whnf); (first | refine zo0 ?_ | refine zo1 ?_ | refine br_z ?_ | refine br_o ?_ | refine br_zn ?_ | refine br_on ?_ | refine nz2 ?_ | refine nz6 ?_ | refine nz32 ?_ | refine And.intro (by assumption) ?_))); (conv => whnf)
  rw [n6]
  exact nxt v D2 L1 hv (ix_fo i1 (fo_fq f2)) (im_fq m1 f2)
set_option maxHeartbeats 4000000 in
theorem lw_c25 {n i : Nat} {v : vs_T} {D : am_D} {L : am_L} (hn : n ≤ 3072) (h6 : i + 6 ≤ n) (hv : vok v) (hx : ix D v) (hm : im D v) (nxt : ∀ (v : vs_T) (D : am_D) (L : am_L), vok v → ix D v → im D v → am_Wp true n cdL_law fnL_law lw_K 18 [some (.ref 79), some (.ref 0), some (.ref 49), some (.int (nI (i + 6)))] [] D L) : am_Wp true n cdL_law fnL_law lw_K 807 [some (.ref 79), some (.ref 0), some (.ref 49), some (.int (nI i))] [] D L := by
  have n6 : nI i + 6 = nI (i + 6) := by rw [show (6 : Int32) = nI 6 by decide +kernel, nI_add]
  refine am_Wp_bl mfL_law [18] 60 _ _ _ _ _ ?_
  (repeat ((conv => whnf); (first | refine zo0 ?_ | refine zo1 ?_ | refine br_z ?_ | refine br_o ?_ | refine br_zn ?_ | refine br_on ?_ | refine nz2 ?_ | refine nz6 ?_ | refine nz32 ?_ | refine And.intro (by assumption) ?_))); (conv => whnf)
  refine ⟨v, hv, hx, fun D1 L1 f1 i1 => ?_⟩
  have m1 : im D1 v := im_fc hm f1
  (repeat ((conv => whnf); (first | refine zo0 ?_ | refine zo1 ?_ | refine br_z ?_ | refine br_o ?_ | refine br_zn ?_ | refine br_on ?_ | refine nz2 ?_ | refine nz6 ?_ | refine nz32 ?_ | refine And.intro (by assumption) ?_))); (conv => whnf)
  refine ⟨v, hv, m1, fun D2 f2 => ?_⟩
  (repeat ((conv => whnf); (first | refine zo0 ?_ | refine zo1 ?_ | refine br_z ?_ | refine br_o ?_ | refine br_zn ?_ | refine br_on ?_ | refine nz2 ?_ | refine nz6 ?_ | refine nz32 ?_ | refine And.intro (by assumption) ?_))); (conv => whnf)
  refine ⟨fun _ => ?_, fun q => absurd rfl q⟩
  (repeat ((conv => whnf); (first | refine zo0 ?_ | refine zo1 ?_ | refine br_z ?_ | refine br_o ?_ | refine br_zn ?_ | refine br_on ?_ | refine nz2 ?_ | refine nz6 ?_ | refine nz32 ?_ | refine And.intro (by assumption) ?_))); (conv => whnf)
  rw [n6]
  exact nxt v D2 L1 hv (ix_fo i1 (fo_fq f2)) (im_fq m1 f2)
set_option maxHeartbeats 4000000 in
theorem lw_c26 {n i : Nat} {v : vs_T} {D : am_D} {L : am_L} (hn : n ≤ 3072) (h6 : i + 6 ≤ n) (hv : vok v) (hx : ix D v) (hm : im D v) (nxt : ∀ (v : vs_T) (D : am_D) (L : am_L), vok v → ix D v → im D v → am_Wp true n cdL_law fnL_law lw_K 18 [some (.ref 79), some (.ref 0), some (.ref 49), some (.int (nI (i + 6)))] [] D L) : am_Wp true n cdL_law fnL_law lw_K 820 [some (.ref 79), some (.ref 0), some (.ref 49), some (.int (nI i))] [] D L := by
  have n6 : nI i + 6 = nI (i + 6) := by rw [show (6 : Int32) = nI 6 by decide +kernel, nI_add]
  have i1 : vp_in (nI i + 1) n := by rw [show (1 : Int32) = nI 1 by decide +kernel, nI_add]; exact vp_in_nI (by omega) (by omega)
  have i2 : vp_in (nI i + 2) n := by rw [show (2 : Int32) = nI 2 by decide +kernel, nI_add]; exact vp_in_nI (by omega) (by omega)
  have i3 : vp_in (nI i + 3) n := by rw [show (3 : Int32) = nI 3 by decide +kernel, nI_add]; exact vp_in_nI (by omega) (by omega)
  refine am_Wp_bl mfL_law [18] 60 _ _ _ _ _ ?_
  (repeat ((conv => whnf); (first | refine zo0 ?_ | refine zo1 ?_ | refine br_z ?_ | refine br_o ?_ | refine br_zn ?_ | refine br_on ?_ | refine nz2 ?_ | refine nz6 ?_ | refine nz32 ?_ | refine And.intro (by assumption) ?_))); (conv => whnf)
  refine ⟨v, hv, hx, fun D1 L1 f1 i1 => ?_⟩
  have m1 : im D1 v := im_fc hm f1
  (repeat ((conv => whnf); (first | refine zo0 ?_ | refine zo1 ?_ | refine br_z ?_ | refine br_o ?_ | refine br_zn ?_ | refine br_on ?_ | refine nz2 ?_ | refine nz6 ?_ | refine nz32 ?_ | refine And.intro (by assumption) ?_))); (conv => whnf)
  rw [f1 79 (by decide)]
  refine ⟨v, hv, m1, fun D2 f2 => ?_⟩
  (repeat ((conv => whnf); (first | refine zo0 ?_ | refine zo1 ?_ | refine br_z ?_ | refine br_o ?_ | refine br_zn ?_ | refine br_on ?_ | refine nz2 ?_ | refine nz6 ?_ | refine nz32 ?_ | refine And.intro (by assumption) ?_))); (conv => whnf)
  refine ⟨fun _ => ?_, fun q => absurd ((lcmp0 _ _).mpr rfl) q⟩
  (repeat ((conv => whnf); (first | refine zo0 ?_ | refine zo1 ?_ | refine br_z ?_ | refine br_o ?_ | refine br_zn ?_ | refine br_on ?_ | refine nz2 ?_ | refine nz6 ?_ | refine nz32 ?_ | refine And.intro (by assumption) ?_))); (conv => whnf)
  rw [n6]
  exact nxt v D2 L1 hv (ix_fo i1 (fo_fq f2)) (im_fq m1 f2)
set_option maxHeartbeats 4000000 in
theorem lw_c27 {n i : Nat} {v : vs_T} {D : am_D} {L : am_L} (hn : n ≤ 3072) (h6 : i + 6 ≤ n) (hv : vok v) (hx : ix D v) (hm : im D v) (nxt : ∀ (v : vs_T) (D : am_D) (L : am_L), vok v → ix D v → im D v → am_Wp true n cdL_law fnL_law lw_K 18 [some (.ref 79), some (.ref 0), some (.ref 49), some (.int (nI (i + 6)))] [] D L) : am_Wp true n cdL_law fnL_law lw_K 864 [some (.ref 79), some (.ref 0), some (.ref 49), some (.int (nI i))] [] D L := by
  have n6 : nI i + 6 = nI (i + 6) := by rw [show (6 : Int32) = nI 6 by decide +kernel, nI_add]
  have i1 : vp_in (nI i + 1) n := by rw [show (1 : Int32) = nI 1 by decide +kernel, nI_add]; exact vp_in_nI (by omega) (by omega)
  have i2 : vp_in (nI i + 2) n := by rw [show (2 : Int32) = nI 2 by decide +kernel, nI_add]; exact vp_in_nI (by omega) (by omega)
  have i3 : vp_in (nI i + 3) n := by rw [show (3 : Int32) = nI 3 by decide +kernel, nI_add]; exact vp_in_nI (by omega) (by omega)
  refine am_Wp_bl mfL_law [18] 60 _ _ _ _ _ ?_
  (repeat ((conv => whnf); (first | refine zo0 ?_ | refine zo1 ?_ | refine br_z ?_ | refine br_o ?_ | refine br_zn ?_ | refine br_on ?_ | refine nz2 ?_ | refine nz6 ?_ | refine nz32 ?_ | refine And.intro (by assumption) ?_))); (conv => whnf)
  refine ⟨v, hv, hx, fun D1 L1 f1 i1 => ?_⟩
  have m1 : im D1 v := im_fc hm f1
  (repeat ((conv => whnf); (first | refine zo0 ?_ | refine zo1 ?_ | refine br_z ?_ | refine br_o ?_ | refine br_zn ?_ | refine br_on ?_ | refine nz2 ?_ | refine nz6 ?_ | refine nz32 ?_ | refine And.intro (by assumption) ?_))); (conv => whnf)
  rw [f1 79 (by decide)]
  refine ⟨v, hv, m1, fun D2 f2 => ?_⟩
  (repeat ((conv => whnf); (first | refine zo0 ?_ | refine zo1 ?_ | refine br_z ?_ | refine br_o ?_ | refine br_zn ?_ | refine br_on ?_ | refine nz2 ?_ | refine nz6 ?_ | refine nz32 ?_ | refine And.intro (by assumption) ?_))); (conv => whnf)
  refine ⟨fun _ => ?_, fun q => absurd rfl q⟩
  (repeat ((conv => whnf); (first | refine zo0 ?_ | refine zo1 ?_ | refine br_z ?_ | refine br_o ?_ | refine br_zn ?_ | refine br_on ?_ | refine nz2 ?_ | refine nz6 ?_ | refine nz32 ?_ | refine And.intro (by assumption) ?_))); (conv => whnf)
  rw [n6]
  exact nxt v D2 L1 hv (ix_fo i1 (fo_fq f2)) (im_fq m1 f2)
set_option maxHeartbeats 4000000 in
theorem lw_c28 {n i : Nat} {v : vs_T} {D : am_D} {L : am_L} (hn : n ≤ 3072) (h6 : i + 6 ≤ n) (hv : vok v) (hx : ix D v) (hm : im D v) (nxt : ∀ (v : vs_T) (D : am_D) (L : am_L), vok v → ix D v → im D v → am_Wp true n cdL_law fnL_law lw_K 18 [some (.ref 79), some (.ref 0), some (.ref 49), some (.int (nI (i + 6)))] [] D L) : am_Wp true n cdL_law fnL_law lw_K 907 [some (.ref 79), some (.ref 0), some (.ref 49), some (.int (nI i))] [] D L := by
  have n6 : nI i + 6 = nI (i + 6) := by rw [show (6 : Int32) = nI 6 by decide +kernel, nI_add]
  have i1 : vp_in (nI i + 1) n := by rw [show (1 : Int32) = nI 1 by decide +kernel, nI_add]; exact vp_in_nI (by omega) (by omega)
  have i2 : vp_in (nI i + 2) n := by rw [show (2 : Int32) = nI 2 by decide +kernel, nI_add]; exact vp_in_nI (by omega) (by omega)
  have i3 : vp_in (nI i + 3) n := by rw [show (3 : Int32) = nI 3 by decide +kernel, nI_add]; exact vp_in_nI (by omega) (by omega)
  refine am_Wp_bl mfL_law [18] 60 _ _ _ _ _ ?_
  (repeat ((conv => whnf); (first | refine zo0 ?_ | refine zo1 ?_ | refine br_z ?_ | refine br_o ?_ | refine br_zn ?_ | refine br_on ?_ | refine nz2 ?_ | refine nz6 ?_ | refine nz32 ?_ | refine And.intro (by assumption) ?_))); (conv => whnf)
  refine ⟨v, hv, hx, fun D1 L1 f1 i1 => ?_⟩
  have m1 : im D1 v := im_fc hm f1
  (repeat ((conv => whnf); (first | refine zo0 ?_ | refine zo1 ?_ | refine br_z ?_ | refine br_o ?_ | refine br_zn ?_ | refine br_on ?_ | refine nz2 ?_ | refine nz6 ?_ | refine nz32 ?_ | refine And.intro (by assumption) ?_))); (conv => whnf)
  rw [f1 79 (by decide)]
  refine ⟨v, hv, m1, fun D2 f2 m2 => ?_⟩
  (repeat ((conv => whnf); (first | refine zo0 ?_ | refine zo1 ?_ | refine br_z ?_ | refine br_o ?_ | refine br_zn ?_ | refine br_on ?_ | refine nz2 ?_ | refine nz6 ?_ | refine nz32 ?_ | refine And.intro (by assumption) ?_))); (conv => whnf)
  refine ⟨fun _ => ?_, fun q => absurd rfl q⟩
  (repeat ((conv => whnf); (first | refine zo0 ?_ | refine zo1 ?_ | refine br_z ?_ | refine br_o ?_ | refine br_zn ?_ | refine br_on ?_ | refine nz2 ?_ | refine nz6 ?_ | refine nz32 ?_ | refine And.intro (by assumption) ?_))); (conv => whnf)
  rw [n6]
  exact nxt _ D2 L1 (vok_sheet hv) (ix_fo i1 f2) m2
set_option maxHeartbeats 4000000 in
theorem lw_c29 {n i : Nat} {v : vs_T} {D : am_D} {L : am_L} (hn : n ≤ 3072) (h6 : i + 6 ≤ n) (hv : vok v) (hx : ix D v) (hm : im D v) (nxt : ∀ (v : vs_T) (D : am_D) (L : am_L), vok v → ix D v → im D v → am_Wp true n cdL_law fnL_law lw_K 18 [some (.ref 79), some (.ref 0), some (.ref 49), some (.int (nI (i + 6)))] [] D L) : am_Wp true n cdL_law fnL_law lw_K 950 [some (.ref 79), some (.ref 0), some (.ref 49), some (.int (nI i))] [] D L := by
  have n6 : nI i + 6 = nI (i + 6) := by rw [show (6 : Int32) = nI 6 by decide +kernel, nI_add]
  have i1 : vp_in (nI i + 1) n := by rw [show (1 : Int32) = nI 1 by decide +kernel, nI_add]; exact vp_in_nI (by omega) (by omega)
  refine am_Wp_bl mfL_law [18] 60 _ _ _ _ _ ?_
  (repeat ((conv => whnf); (first | refine zo0 ?_ | refine zo1 ?_ | refine br_z ?_ | refine br_o ?_ | refine br_zn ?_ | refine br_on ?_ | refine nz2 ?_ | refine nz6 ?_ | refine nz32 ?_ | refine And.intro (by assumption) ?_))); (conv => whnf)
  refine ⟨v, hv, hx, fun D1 L1 f1 i1 => ?_⟩
  have m1 : im D1 v := im_fc hm f1
  (repeat ((conv => whnf); (first | refine zo0 ?_ | refine zo1 ?_ | refine br_z ?_ | refine br_o ?_ | refine br_zn ?_ | refine br_on ?_ | refine nz2 ?_ | refine nz6 ?_ | refine nz32 ?_ | refine And.intro (by assumption) ?_))); (conv => whnf)
  rw [f1 79 (by decide)]
  refine ⟨v, hv, m1, fun D2 f2 m2 => ?_⟩
  (repeat ((conv => whnf); (first | refine zo0 ?_ | refine zo1 ?_ | refine br_z ?_ | refine br_o ?_ | refine br_zn ?_ | refine br_on ?_ | refine nz2 ?_ | refine nz6 ?_ | refine nz32 ?_ | refine And.intro (by assumption) ?_))); (conv => whnf)
  refine ⟨fun _ => ?_, fun q => absurd rfl q⟩
  (repeat ((conv => whnf); (first | refine zo0 ?_ | refine zo1 ?_ | refine br_z ?_ | refine br_o ?_ | refine br_zn ?_ | refine br_on ?_ | refine nz2 ?_ | refine nz6 ?_ | refine nz32 ?_ | refine And.intro (by assumption) ?_))); (conv => whnf)
  rw [n6]
  exact nxt _ D2 L1 (vok_lose hv) (ix_fo i1 f2) m2
set_option maxHeartbeats 4000000 in
theorem lw_c30 {n i : Nat} {v : vs_T} {D : am_D} {L : am_L} (hn : n ≤ 3072) (h6 : i + 6 ≤ n) (hv : vok v) (hx : ix D v) (hm : im D v) (nxt : ∀ (v : vs_T) (D : am_D) (L : am_L), vok v → ix D v → im D v → am_Wp true n cdL_law fnL_law lw_K 18 [some (.ref 79), some (.ref 0), some (.ref 49), some (.int (nI (i + 6)))] [] D L) : am_Wp true n cdL_law fnL_law lw_K 973 [some (.ref 79), some (.ref 0), some (.ref 49), some (.int (nI i))] [] D L := by
  have n6 : nI i + 6 = nI (i + 6) := by rw [show (6 : Int32) = nI 6 by decide +kernel, nI_add]
  have i1 : vp_in (nI i + 1) n := by rw [show (1 : Int32) = nI 1 by decide +kernel, nI_add]; exact vp_in_nI (by omega) (by omega)
  have i2 : vp_in (nI i + 2) n := by rw [show (2 : Int32) = nI 2 by decide +kernel, nI_add]; exact vp_in_nI (by omega) (by omega)
  have i3 : vp_in (nI i + 3) n := by rw [show (3 : Int32) = nI 3 by decide +kernel, nI_add]; exact vp_in_nI (by omega) (by omega)
  have i4 : vp_in (nI i + 4) n := by rw [show (4 : Int32) = nI 4 by decide +kernel, nI_add]; exact vp_in_nI (by omega) (by omega)
  refine am_Wp_bl mfL_law [18] 60 _ _ _ _ _ ?_
  (repeat ((conv => whnf); (first | refine zo0 ?_ | refine zo1 ?_ | refine br_z ?_ | refine br_o ?_ | refine br_zn ?_ | refine br_on ?_ | refine nz2 ?_ | refine nz6 ?_ | refine nz32 ?_ | refine And.intro (by assumption) ?_))); (conv => whnf)
  refine ⟨v, hv, hx, fun D1 L1 f1 i1 => ?_⟩
  have m1 : im D1 v := im_fc hm f1
  (repeat ((conv => whnf); (first | refine zo0 ?_ | refine zo1 ?_ | refine br_z ?_ | refine br_o ?_ | refine br_zn ?_ | refine br_on ?_ | refine nz2 ?_ | refine nz6 ?_ | refine nz32 ?_ | refine And.intro (by assumption) ?_))); (conv => whnf)
  rw [f1 79 (by decide)]
  refine ⟨v, hv, m1, fun D2 f2 m2 => ?_⟩
  (repeat ((conv => whnf); (first | refine zo0 ?_ | refine zo1 ?_ | refine br_z ?_ | refine br_o ?_ | refine br_zn ?_ | refine br_on ?_ | refine nz2 ?_ | refine nz6 ?_ | refine nz32 ?_ | refine And.intro (by assumption) ?_))); (conv => whnf)
  refine ⟨fun _ => ?_, fun q => absurd rfl q⟩
  (repeat ((conv => whnf); (first | refine zo0 ?_ | refine zo1 ?_ | refine br_z ?_ | refine br_o ?_ | refine br_zn ?_ | refine br_on ?_ | refine nz2 ?_ | refine nz6 ?_ | refine nz32 ?_ | refine And.intro (by assumption) ?_))); (conv => whnf)
  rw [n6]
  exact nxt _ D2 L1 (vok_put hv) (ix_fo i1 f2) m2
set_option maxHeartbeats 4000000 in
theorem lw_c31 {n i : Nat} {v : vs_T} {D : am_D} {L : am_L} (hn : n ≤ 3072) (h6 : i + 6 ≤ n) (hv : vok v) (hx : ix D v) (hm : im D v) (nxt : ∀ (v : vs_T) (D : am_D) (L : am_L), vok v → ix D v → im D v → am_Wp true n cdL_law fnL_law lw_K 18 [some (.ref 79), some (.ref 0), some (.ref 49), some (.int (nI (i + 6)))] [] D L) : am_Wp true n cdL_law fnL_law lw_K 1026 [some (.ref 79), some (.ref 0), some (.ref 49), some (.int (nI i))] [] D L := by
  have n6 : nI i + 6 = nI (i + 6) := by rw [show (6 : Int32) = nI 6 by decide +kernel, nI_add]
  have i1 : vp_in (nI i + 1) n := by rw [show (1 : Int32) = nI 1 by decide +kernel, nI_add]; exact vp_in_nI (by omega) (by omega)
  have i2 : vp_in (nI i + 2) n := by rw [show (2 : Int32) = nI 2 by decide +kernel, nI_add]; exact vp_in_nI (by omega) (by omega)
  have i3 : vp_in (nI i + 3) n := by rw [show (3 : Int32) = nI 3 by decide +kernel, nI_add]; exact vp_in_nI (by omega) (by omega)
  refine am_Wp_bl mfL_law [18] 60 _ _ _ _ _ ?_
  (repeat ((conv => whnf); (first | refine zo0 ?_ | refine zo1 ?_ | refine br_z ?_ | refine br_o ?_ | refine br_zn ?_ | refine br_on ?_ | refine nz2 ?_ | refine nz6 ?_ | refine nz32 ?_ | refine And.intro (by assumption) ?_))); (conv => whnf)
  refine ⟨v, hv, hx, fun D1 L1 f1 i1 => ?_⟩
  have m1 : im D1 v := im_fc hm f1
  (repeat ((conv => whnf); (first | refine zo0 ?_ | refine zo1 ?_ | refine br_z ?_ | refine br_o ?_ | refine br_zn ?_ | refine br_on ?_ | refine nz2 ?_ | refine nz6 ?_ | refine nz32 ?_ | refine And.intro (by assumption) ?_))); (conv => whnf)
  rw [f1 79 (by decide)]
  refine ⟨v, hv, m1, fun D2 f2 m2 => ?_⟩
  (repeat ((conv => whnf); (first | refine zo0 ?_ | refine zo1 ?_ | refine br_z ?_ | refine br_o ?_ | refine br_zn ?_ | refine br_on ?_ | refine nz2 ?_ | refine nz6 ?_ | refine nz32 ?_ | refine And.intro (by assumption) ?_))); (conv => whnf)
  refine ⟨fun _ => ?_, fun q => absurd rfl q⟩
  (repeat ((conv => whnf); (first | refine zo0 ?_ | refine zo1 ?_ | refine br_z ?_ | refine br_o ?_ | refine br_zn ?_ | refine br_on ?_ | refine nz2 ?_ | refine nz6 ?_ | refine nz32 ?_ | refine And.intro (by assumption) ?_))); (conv => whnf)
  rw [n6]
  exact nxt _ D2 L1 (vok_get hv) (ix_fo i1 f2) m2
set_option maxHeartbeats 4000000 in
theorem lw_c32 {n i : Nat} {v : vs_T} {D : am_D} {L : am_L} (hn : n ≤ 3072) (h6 : i + 6 ≤ n) (hv : vok v) (hx : ix D v) (hm : im D v) (nxt : ∀ (v : vs_T) (D : am_D) (L : am_L), vok v → ix D v → im D v → am_Wp true n cdL_law fnL_law lw_K 18 [some (.ref 79), some (.ref 0), some (.ref 49), some (.int (nI (i + 6)))] [] D L) : am_Wp true n cdL_law fnL_law lw_K 1069 [some (.ref 79), some (.ref 0), some (.ref 49), some (.int (nI i))] [] D L := by
  have n6 : nI i + 6 = nI (i + 6) := by rw [show (6 : Int32) = nI 6 by decide +kernel, nI_add]
  have i1 : vp_in (nI i + 1) n := by rw [show (1 : Int32) = nI 1 by decide +kernel, nI_add]; exact vp_in_nI (by omega) (by omega)
  have i2 : vp_in (nI i + 2) n := by rw [show (2 : Int32) = nI 2 by decide +kernel, nI_add]; exact vp_in_nI (by omega) (by omega)
  have i3 : vp_in (nI i + 3) n := by rw [show (3 : Int32) = nI 3 by decide +kernel, nI_add]; exact vp_in_nI (by omega) (by omega)
  have i4 : vp_in (nI i + 4) n := by rw [show (4 : Int32) = nI 4 by decide +kernel, nI_add]; exact vp_in_nI (by omega) (by omega)
  have i5 : vp_in (nI i + 5) n := by rw [show (5 : Int32) = nI 5 by decide +kernel, nI_add]; exact vp_in_nI (by omega) (by omega)
  refine am_Wp_bl mfL_law [18] 60 _ _ _ _ _ ?_
  (repeat ((conv => whnf); (first | refine zo0 ?_ | refine zo1 ?_ | refine br_z ?_ | refine br_o ?_ | refine br_zn ?_ | refine br_on ?_ | refine nz2 ?_ | refine nz6 ?_ | refine nz32 ?_ | refine And.intro (by assumption) ?_))); (conv => whnf)
  refine ⟨v, hv, hx, fun D1 L1 f1 i1 => ?_⟩
  have m1 : im D1 v := im_fc hm f1
  (repeat ((conv => whnf); (first | refine zo0 ?_ | refine zo1 ?_ | refine br_z ?_ | refine br_o ?_ | refine br_zn ?_ | refine br_on ?_ | refine nz2 ?_ | refine nz6 ?_ | refine nz32 ?_ | refine And.intro (by assumption) ?_))); (conv => whnf)
  rw [f1 79 (by decide)]
  refine ⟨v, hv, m1, fun D2 f2 m2 => ?_⟩
  (repeat ((conv => whnf); (first | refine zo0 ?_ | refine zo1 ?_ | refine br_z ?_ | refine br_o ?_ | refine br_zn ?_ | refine br_on ?_ | refine nz2 ?_ | refine nz6 ?_ | refine nz32 ?_ | refine And.intro (by assumption) ?_))); (conv => whnf)
  refine ⟨fun _ => ?_, fun q => absurd rfl q⟩
  (repeat ((conv => whnf); (first | refine zo0 ?_ | refine zo1 ?_ | refine br_z ?_ | refine br_o ?_ | refine br_zn ?_ | refine br_on ?_ | refine nz2 ?_ | refine nz6 ?_ | refine nz32 ?_ | refine And.intro (by assumption) ?_))); (conv => whnf)
  rw [n6]
  exact nxt _ D2 L1 (vok_copy hv) (ix_fo i1 f2) m2
set_option maxHeartbeats 4000000 in
theorem lw_c33 {n i : Nat} {v : vs_T} {D : am_D} {L : am_L} (hn : n ≤ 3072) (h6 : i + 6 ≤ n) (hv : vok v) (hx : ix D v) (hm : im D v) (nxt : ∀ (v : vs_T) (D : am_D) (L : am_L), vok v → ix D v → im D v → am_Wp true n cdL_law fnL_law lw_K 18 [some (.ref 79), some (.ref 0), some (.ref 49), some (.int (nI (i + 6)))] [] D L) : am_Wp true n cdL_law fnL_law lw_K 1132 [some (.ref 79), some (.ref 0), some (.ref 49), some (.int (nI i))] [] D L := by
  have n6 : nI i + 6 = nI (i + 6) := by rw [show (6 : Int32) = nI 6 by decide +kernel, nI_add]
  have i1 : vp_in (nI i + 1) n := by rw [show (1 : Int32) = nI 1 by decide +kernel, nI_add]; exact vp_in_nI (by omega) (by omega)
  have i2 : vp_in (nI i + 2) n := by rw [show (2 : Int32) = nI 2 by decide +kernel, nI_add]; exact vp_in_nI (by omega) (by omega)
  refine am_Wp_bl mfL_law [18] 60 _ _ _ _ _ ?_
  (repeat ((conv => whnf); (first | refine zo0 ?_ | refine zo1 ?_ | refine br_z ?_ | refine br_o ?_ | refine br_zn ?_ | refine br_on ?_ | refine nz2 ?_ | refine nz6 ?_ | refine nz32 ?_ | refine And.intro (by assumption) ?_))); (conv => whnf)
  refine ⟨v, hv, hx, fun D1 L1 f1 i1 => ?_⟩
  have m1 : im D1 v := im_fc hm f1
  (repeat ((conv => whnf); (first | refine zo0 ?_ | refine zo1 ?_ | refine br_z ?_ | refine br_o ?_ | refine br_zn ?_ | refine br_on ?_ | refine nz2 ?_ | refine nz6 ?_ | refine nz32 ?_ | refine And.intro (by assumption) ?_))); (conv => whnf)
  rw [f1 79 (by decide)]
  refine ⟨v, hv, m1, fun D2 f2 m2 => ?_⟩
  (repeat ((conv => whnf); (first | refine zo0 ?_ | refine zo1 ?_ | refine br_z ?_ | refine br_o ?_ | refine br_zn ?_ | refine br_on ?_ | refine nz2 ?_ | refine nz6 ?_ | refine nz32 ?_ | refine And.intro (by assumption) ?_))); (conv => whnf)
  refine ⟨fun _ => ?_, fun q => absurd rfl q⟩
  (repeat ((conv => whnf); (first | refine zo0 ?_ | refine zo1 ?_ | refine br_z ?_ | refine br_o ?_ | refine br_zn ?_ | refine br_on ?_ | refine nz2 ?_ | refine nz6 ?_ | refine nz32 ?_ | refine And.intro (by assumption) ?_))); (conv => whnf)
  rw [n6]
  exact nxt _ D2 L1 (vok_write hv) (ix_fo i1 f2) m2
set_option maxHeartbeats 4000000 in
theorem lw_c34 {n i : Nat} {v : vs_T} {D : am_D} {L : am_L} (hn : n ≤ 3072) (h6 : i + 6 ≤ n) (hv : vok v) (hx : ix D v) (hm : im D v) (nxt : ∀ (v : vs_T) (D : am_D) (L : am_L), vok v → ix D v → im D v → am_Wp true n cdL_law fnL_law lw_K 18 [some (.ref 79), some (.ref 0), some (.ref 49), some (.int (nI (i + 6)))] [] D L) : am_Wp true n cdL_law fnL_law lw_K 1165 [some (.ref 79), some (.ref 0), some (.ref 49), some (.int (nI i))] [] D L := by
  have n6 : nI i + 6 = nI (i + 6) := by rw [show (6 : Int32) = nI 6 by decide +kernel, nI_add]
  have i1 : vp_in (nI i + 1) n := by rw [show (1 : Int32) = nI 1 by decide +kernel, nI_add]; exact vp_in_nI (by omega) (by omega)
  refine am_Wp_bl mfL_law [18] 60 _ _ _ _ _ ?_
  (repeat ((conv => whnf); (first | refine zo0 ?_ | refine zo1 ?_ | refine br_z ?_ | refine br_o ?_ | refine br_zn ?_ | refine br_on ?_ | refine nz2 ?_ | refine nz6 ?_ | refine nz32 ?_ | refine And.intro (by assumption) ?_))); (conv => whnf)
  refine ⟨v, hv, hx, fun D1 L1 f1 i1 => ?_⟩
  have m1 : im D1 v := im_fc hm f1
  (repeat ((conv => whnf); (first | refine zo0 ?_ | refine zo1 ?_ | refine br_z ?_ | refine br_o ?_ | refine br_zn ?_ | refine br_on ?_ | refine nz2 ?_ | refine nz6 ?_ | refine nz32 ?_ | refine And.intro (by assumption) ?_))); (conv => whnf)
  rw [f1 79 (by decide)]
  refine ⟨v, hv, m1, fun D2 f2 => ?_⟩
  (repeat ((conv => whnf); (first | refine zo0 ?_ | refine zo1 ?_ | refine br_z ?_ | refine br_o ?_ | refine br_zn ?_ | refine br_on ?_ | refine nz2 ?_ | refine nz6 ?_ | refine nz32 ?_ | refine And.intro (by assumption) ?_))); (conv => whnf)
  refine ⟨fun _ => ?_, fun q => absurd rfl q⟩
  (repeat ((conv => whnf); (first | refine zo0 ?_ | refine zo1 ?_ | refine br_z ?_ | refine br_o ?_ | refine br_zn ?_ | refine br_on ?_ | refine nz2 ?_ | refine nz6 ?_ | refine nz32 ?_ | refine And.intro (by assumption) ?_))); (conv => whnf)
  rw [n6]
  exact nxt v D2 L1 hv (ix_fo i1 (fo_fq f2)) (im_fq m1 f2)
set_option maxHeartbeats 4000000 in
theorem lw_c35 {n i : Nat} {v : vs_T} {D : am_D} {L : am_L} (hn : n ≤ 3072) (h6 : i + 6 ≤ n) (hv : vok v) (hx : ix D v) (hm : im D v) (nxt : ∀ (v : vs_T) (D : am_D) (L : am_L), vok v → ix D v → im D v → am_Wp true n cdL_law fnL_law lw_K 18 [some (.ref 79), some (.ref 0), some (.ref 49), some (.int (nI (i + 6)))] [] D L) : am_Wp true n cdL_law fnL_law lw_K 1188 [some (.ref 79), some (.ref 0), some (.ref 49), some (.int (nI i))] [] D L := by
  have n6 : nI i + 6 = nI (i + 6) := by rw [show (6 : Int32) = nI 6 by decide +kernel, nI_add]
  refine am_Wp_bl mfL_law [18] 60 _ _ _ _ _ ?_
  (repeat ((conv => whnf); (first | refine zo0 ?_ | refine zo1 ?_ | refine br_z ?_ | refine br_o ?_ | refine br_zn ?_ | refine br_on ?_ | refine nz2 ?_ | refine nz6 ?_ | refine nz32 ?_ | refine And.intro (by assumption) ?_))); (conv => whnf)
  refine ⟨v, hv, hx, fun D1 L1 f1 i1 => ?_⟩
  have m1 : im D1 v := im_fc hm f1
  (repeat ((conv => whnf); (first | refine zo0 ?_ | refine zo1 ?_ | refine br_z ?_ | refine br_o ?_ | refine br_zn ?_ | refine br_on ?_ | refine nz2 ?_ | refine nz6 ?_ | refine nz32 ?_ | refine And.intro (by assumption) ?_))); (conv => whnf)
  refine ⟨v, hv, m1, fun D2 f2 => ?_⟩
  (repeat ((conv => whnf); (first | refine zo0 ?_ | refine zo1 ?_ | refine br_z ?_ | refine br_o ?_ | refine br_zn ?_ | refine br_on ?_ | refine nz2 ?_ | refine nz6 ?_ | refine nz32 ?_ | refine And.intro (by assumption) ?_))); (conv => whnf)
  refine ⟨fun _ => ?_, fun q => absurd ((lcmp0 _ _).mpr rfl) q⟩
  (repeat ((conv => whnf); (first | refine zo0 ?_ | refine zo1 ?_ | refine br_z ?_ | refine br_o ?_ | refine br_zn ?_ | refine br_on ?_ | refine nz2 ?_ | refine nz6 ?_ | refine nz32 ?_ | refine And.intro (by assumption) ?_))); (conv => whnf)
  rw [n6]
  exact nxt v D2 L1 hv (ix_fo i1 (fo_fq f2)) (im_fq m1 f2)
