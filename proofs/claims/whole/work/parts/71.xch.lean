/-! chances, by sets of events that are -/
def sg (f : Nat → Nat) : Nat → Nat
  | 0 => 0
  | k + 1 => sg f k + f k
theorem sg_cg {f g : Nat → Nat} : ∀ n, (∀ i, i < n → f i = g i) → sg f n = sg g n
  | 0, _ => rfl
  | n + 1, h => by rw [sg, sg, sg_cg n (fun i hi => h i (by omega)), h n (by omega)]
theorem sg_front (f : Nat → Nat) : ∀ n, sg f (n + 1) = f 0 + sg (fun i => f (i + 1)) n
  | 0 => by simp [sg]
  | n + 1 => by
    have ih := sg_front f n
    rw [sg, ih, sg]
    omega
theorem sg_rev : ∀ (n : Nat) (f : Nat → Nat), sg (fun i => f (n - 1 - i)) n = sg f n
  | 0, _ => rfl
  | n + 1, f => by
    have ih := sg_rev n (fun i => f (i + 1))
    rw [sg_front f n, ← ih, sg, Nat.add_comm]
    have e : f (n + 1 - 1 - n) = f 0 := by congr 1; omega
    rw [e]
    congr 1
    refine sg_cg n (fun i hi => ?_)
    show f (n + 1 - 1 - i) = f (n - 1 - i + 1)
    congr 1
    omega
/-- what a set of p of n events weighs -/
def hwt (c p : Nat) : Nat → Nat
  | 0 => 1
  | i + 1 => hwt c p i * (if i < p then c else 16 - c)
theorem hwt_le {c p : Nat} (hc : c ≤ 16) : ∀ n, hwt c p n ≤ 16 ^ n
  | 0 => Nat.le_refl 1
  | n + 1 => by
    rw [hwt, Nat.pow_succ]
    exact Nat.mul_le_mul (hwt_le hc n) (by split <;> omega)
theorem hwt_lt {c p n : Nat} (hc : c ≤ 16) (hn : n ≤ 8) : hwt c p n ≤ 4294967296 := Nat.le_trans (hwt_le hc n) (Nat.le_trans (Nat.pow_le_pow_right (by decide) hn) (by decide))
theorem hwt_pow (c : Nat) : ∀ n p, p ≤ n → hwt c p n = c ^ p * (16 - c) ^ (n - p)
  | 0, p, h => by
    have : p = 0 := by omega
    subst this
    simp [hwt]
  | n + 1, p, h => by
    rw [hwt]
    by_cases e : n < p
    · have e1 : p = n + 1 := by omega
      subst e1
      rw [if_pos (by omega)]
      have := hwt_pow c n n (Nat.le_refl n)
      have e2 : hwt c (n + 1) n = hwt c n n := by
        have aux : ∀ k, k ≤ n → hwt c (n + 1) k = hwt c n k := by
          intro k
          induction k with
          | zero => intro _; rfl
          | succ k ih => intro hk; rw [hwt, hwt, ih (by omega), if_pos (by omega), if_pos (by omega)]
        exact aux n (Nat.le_refl n)
      rw [e2, this, Nat.sub_self, Nat.sub_self, Nat.pow_zero, Nat.mul_one, Nat.mul_one, Nat.pow_succ]
    · rw [if_neg e, hwt_pow c n p (by omega), show n + 1 - p = (n - p) + 1 by omega, Nat.pow_succ, Nat.mul_assoc]
theorem mw_pc_le (m : Nat) : ∀ k, mw_pc k m ≤ k
  | 0 => Nat.le_refl 0
  | k + 1 => by
    have := mw_pc_le m k
    have := Nat.mod_lt (m / 2 ^ k) (show 0 < 2 by decide)
    simp only [mw_pc]
    omega
theorem cmp_bit : ∀ n, n < 9 → ∀ S, S < 2 ^ n → ∀ e, e < n → (2 ^ n - 1 - S) / 2 ^ e % 2 = 1 - S / 2 ^ e % 2 := by decide +kernel
theorem chw_pow (c n S : Nat) (hn : n < 9) (hS : S < 2 ^ n) : ∀ e, e ≤ n → chw c (2 ^ n - 1 - S) e = c ^ (mw_pc e S) * (16 - c) ^ (e - mw_pc e S)
  | 0, _ => rfl
  | e + 1, he => by
    have ih := chw_pow c n S hn hS e (by omega)
    have b := cmp_bit n hn S hS e (by omega)
    have l := mw_pc_le S e
    have m := Nat.mod_lt (S / 2 ^ e) (show 0 < 2 by decide)
    rw [chw, ih, b, mw_pc]
    by_cases q : S / 2 ^ e % 2 = 0
    · rw [q, if_neg (by decide), Nat.add_zero, show e + 1 - mw_pc e S = (e - mw_pc e S) + 1 by omega, Nat.pow_succ, Nat.mul_assoc]
    · have q1 : S / 2 ^ e % 2 = 1 := by omega
      rw [q1, if_pos rfl, show e + 1 - (mw_pc e S + 1) = e - mw_pc e S by omega, Nat.pow_succ, Nat.mul_right_comm]
theorem pc_12 (S : Nat) : ∀ n, S < 2 ^ n → ∀ m, mw_pc (n + m) S = mw_pc n S
  | n, h, 0 => rfl
  | n, h, m + 1 => by
    rw [← Nat.add_assoc, mw_pc_big (n + m) S (Nat.lt_of_lt_of_le h (Nat.pow_le_pow_right (by decide) (by omega)))]
    exact pc_12 S n h m
theorem hwt_chw {c n S : Nat} (hn : n < 9) (hS : S < 2 ^ n) : hwt c (mw_pc 12 S) n = chw c (2 ^ n - 1 - S) n := by
  have e := pc_12 S n hS (12 - n)
  rw [show n + (12 - n) = 12 by omega] at e
  rw [e, hwt_pow c n _ (mw_pc_le S n), chw_pow c n S hn hS n (Nat.le_refl n)]
/-- a door's bit among those that lack -/
theorem sh_d : ∀ d, d < 12 → ((nI d &&& 31).toBitVec.smod 32).toNat = d := by decide +kernel
theorem bit12 {m d : Nat} (hm : m < 4096) (hd : d < 12) : ((nI m >>> (nI d &&& 31)) &&& 1 = 0) ↔ m / 2 ^ d % 2 = 0 := by
  have h1 : m / 2 ^ d ≤ m := Nat.div_le_self _ _
  rw [pk_shrN (by omega) _ d (sh_d d hd), pk_andN (by omega) 1 (by decide), ← nI_0, nI_eq (by omega) (by omega)]
theorem mw_mk_mkN (P w : mw_T) : ∀ k, mw_mk P w k = mkN (fun j => decide (w 1 j < P 1 j)) k
  | 0 => rfl
  | k + 1 => by
    simp only [mw_mk, mkN, mw_mk_mkN P w k, decide_eq_true_eq]
    split <;> omega
theorem lk_bit {P w : mw_T} {d : Nat} (hd : d < 12) : ((mw_lk P w 12 >>> (nI d &&& 31)) &&& 1 = 0) ↔ ¬ w 1 d < P 1 d := by
  rw [mw_lk_mk P w 12 (Nat.le_refl 12), bit12 (mw_mk_lt P w 12) hd, mw_mk_mkN, mkN_bit _ 12 d hd]
  by_cases q : w 1 d < P 1 d
  · simp [q]
  · simp [q]
theorem prs_chp {n S : Nat} (hn : n < 9) (hS : S < 2 ^ n) : ∀ i, i < n → prs S i = chp (2 ^ n - 1 - S) i := fun i hi => by
  unfold prs chp
  rw [cmp_bit n hn S hS i hi]
  have m := Nat.mod_lt (S / 2 ^ i) (show 0 < 2 by decide)
  refine decide_eq_decide.mpr ?_
  omega
theorem prx_prs : ∀ S, S < 256 → ∀ i, i < 8 → prs S i = decide (((nI S ^^^ -1) >>> (nI i &&& 31)) &&& 1 = 0) := by decide +kernel
theorem chs_sg (v : vs_T) (c d : Nat) : ∀ s, chs v c d s = sg (fun s => if chd v d (chp s) = true then chw c s (vn v 0 6) else 0) s
  | 0 => rfl
  | s + 1 => by rw [chs, sg, chs_sg v c d s]
def hlk (v : vs_T) (S : Nat) : Int32 := mw_lk (vpl v) (mw_run (vpl v) (vev v) (prs S) 48) 12
theorem hsum_chs {v : vs_T} {c d : Nat} (hv : vok v) (hd : d < 12) : sg (fun S => if (hlk v S >>> (nI d &&& 31)) &&& 1 = 0 then hwt c (mw_pc 12 S) (vn v 0 6) else 0) (2 ^ vn v 0 6) = chs v c d (2 ^ vn v 0 6) := by
  have hn := (vok_ev hv).2
  obtain ⟨n, en⟩ : ∃ n, vn v 0 6 = n := ⟨_, rfl⟩
  rw [chs_sg]
  refine Eq.trans ?_ (sg_rev _ _)
  refine sg_cg _ (fun S hS => ?_)
  rw [en] at hS hn ⊢
  have hr : mw_run (vpl v) (vev v) (prs S) 48 = mw_run (vpl v) (vev v) (chp (2 ^ n - 1 - S)) 48 := mw_run_cg (pe_rf _) (ee_rf _) (fun i hi => prs_chp (by omega) hS i (by rw [← en]; exact hi)) 48
  have hb : ((hlk v S >>> (nI d &&& 31)) &&& 1 = 0) ↔ chd v d (chp (2 ^ n - 1 - S)) = true := by
    unfold hlk chd
    rw [hr, lk_bit hd, decide_eq_true_eq]
    have := (mw_run_ok (pr := chp (2 ^ n - 1 - S)) (vpl_ok hv) (vev_ok hv) 48).2.2.2.2.2.2.2.2 d hd
    omega
  by_cases q : (hlk v S >>> (nI d &&& 31)) &&& 1 = 0
  · rw [if_pos q, if_pos (hb.mp q), hwt_chw (by omega) hS]
  · rw [if_neg q, if_neg (fun e => q (hb.mpr e))]
/-- halving both is all that can be done -/
theorem odd_gcd {a q : Nat} (h : a % 2 = 1) : Nat.gcd a (2 ^ q) = 1 := by
  have h2 : Nat.Coprime a 2 := by
    unfold Nat.Coprime
    rw [Nat.gcd_comm, Nat.gcd_rec, h]
    rfl
  exact Nat.Coprime.pow_right q h2
theorem half_end {A B a b j : Nat} (h1 : A = a * 2 ^ j) (h2 : B = b * 2 ^ j) (hg : Nat.gcd a b = 1) : A / Nat.gcd A B = a ∧ B / Nat.gcd A B = b := by
  rw [h1, h2, Nat.gcd_mul_right, hg, Nat.one_mul]
  exact ⟨Nat.mul_div_cancel a (Nat.two_pow_pos j), Nat.mul_div_cancel b (Nat.two_pow_pos j)⟩
