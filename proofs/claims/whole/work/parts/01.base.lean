/-! 01: rows pasted from the rows to paste (pk_, b_, s_l, nx_), then bits and pure functions of our own -/
theorem pk_us {f : Nat → Int32} {k : Nat} {x : Int32} : upd f k x k = x := if_pos rfl
theorem pk_un {f : Nat → Int32} {k j : Nat} {x : Int32} (h : j ≠ k) : upd f k x j = f j := if_neg h
theorem pk_mul (a b : Nat) : nI a * nI b = nI (a * b) := (Int32.ofNat_mul a b).symm
theorem pk_le {x y : Int32} {A B : Prop} (a b : Nat) (f : a ≤ b → A) (g : b < a → B) (hx : x = nI a := by rfl) (hy : y = nI b := by rfl) (ha : a < 2 ^ 31 := by omega) (hb : b < 2 ^ 31 := by omega) : (x ≤ y → A) ∧ (¬ x ≤ y → B) := by
  subst hx hy
  rw [nI_leI ha hb]
  exact ⟨f, fun z => g (by omega)⟩
theorem pk_lt {x y : Int32} {A B : Prop} (a b : Nat) (f : a < b → A) (g : b ≤ a → B) (hx : x = nI a := by rfl) (hy : y = nI b := by rfl) (ha : a < 2 ^ 31 := by omega) (hb : b < 2 ^ 31 := by omega) : (x < y → A) ∧ (¬ x < y → B) := by
  subst hx hy
  rw [nI_ltI ha hb]
  exact ⟨f, fun z => g (by omega)⟩
theorem pk_eq {x y : Int32} {A B : Prop} (a b : Nat) (f : a = b → A) (g : a ≠ b → B) (hx : x = nI a := by rfl) (hy : y = nI b := by rfl) (ha : a < 2 ^ 31 := by omega) (hb : b < 2 ^ 31 := by omega) : (x = y → A) ∧ (¬ x = y → B) := by
  subst hx hy
  rw [nI_eq ha hb]
  exact ⟨f, g⟩
theorem pk_in {x : Int32} (n N : Nat) (h : n < N) (hx : x = nI n := by rfl) (hN : N < 2 ^ 31 := by omega) : vp_in x N := by
  subst hx
  exact vp_in_nI h hN
theorem pk_cl {x : Int32} (n : Nat) (hx : x = nI n := by rfl) (h : n < 2 ^ 31 := by omega) : x.toNatClampNeg = n := by
  subst hx
  exact nI_clamp h
theorem pk_tn {n : Nat} (h : n < 2 ^ 32) : (nI n).toBitVec.toNat = n := Nat.mod_eq_of_lt h
theorem pk_and (x : Int32) {m : Int32} (k : Nat) (hm : m.toBitVec.toNat = 2 ^ k - 1) : x &&& m = nI (x.toBitVec.toNat % 2 ^ k) := by
  apply Int32.toBitVec_inj.mp
  apply BitVec.eq_of_toNat_eq
  rw [Int32.toBitVec_and, BitVec.toNat_and, hm, Nat.and_two_pow_sub_one_eq_mod]
  show _ = (BitVec.ofNat 32 _).toNat
  rw [BitVec.toNat_ofNat]
  exact (Nat.mod_eq_of_lt (Nat.lt_of_le_of_lt (Nat.mod_le _ _) x.toBitVec.isLt)).symm
theorem pk_andN {n : Nat} (h : n < 2 ^ 32) {m : Int32} (k : Nat) (hm : m.toBitVec.toNat = 2 ^ k - 1) : nI n &&& m = nI (n % 2 ^ k) := by
  rw [pk_and _ k hm, pk_tn h]
theorem pk_shl (a s : Int32) (k : Nat) (hs : (s.toBitVec.smod 32).toNat = k) : (a <<< s).toBitVec.toNat = a.toBitVec.toNat * 2 ^ k % 2 ^ 32 := by
  show (a.toBitVec <<< (s.toBitVec.smod 32).toNat).toNat = _
  rw [hs, BitVec.toNat_shiftLeft, Nat.shiftLeft_eq]
theorem pk_shlN {n : Nat} (s : Int32) (k : Nat) (hs : (s.toBitVec.smod 32).toNat = k) (h : n * 2 ^ k < 2 ^ 32) : nI n <<< s = nI (n * 2 ^ k) := by
  apply Int32.toBitVec_inj.mp
  apply BitVec.eq_of_toNat_eq
  have hn : n < 2 ^ 32 := Nat.lt_of_le_of_lt (Nat.le_mul_of_pos_right n (Nat.two_pow_pos k)) h
  rw [pk_shl _ _ k hs, pk_tn hn, pk_tn h, Nat.mod_eq_of_lt h]
theorem pk_shr (a s : Int32) (k : Nat) (hs : (s.toBitVec.smod 32).toNat = k) : (a >>> s).toInt = a.toInt >>> k := by
  show (a.toBitVec.sshiftRight (s.toBitVec.smod 32).toNat).toInt = _
  rw [hs, BitVec.toInt_sshiftRight]
  rfl
theorem pk_shrN {n : Nat} (h : n < 2 ^ 31) (s : Int32) (k : Nat) (hs : (s.toBitVec.smod 32).toNat = k) : nI n >>> s = nI (n / 2 ^ k) := by
  apply Int32.toInt_inj.mp
  have h2 : n / 2 ^ k ≤ n := Nat.div_le_self _ _
  rw [pk_shr _ _ k hs, nI_toInt h, nI_toInt (by omega), Int.shiftRight_eq_div_pow]
  rfl
def bt (x : Int32) (i : Nat) : Bool := x.toBitVec.getLsbD i
theorem b_ext {x y : Int32} (h : ∀ i, i < 32 → bt x i = bt y i) : x = y := Int32.toBitVec_inj.mp (BitVec.eq_of_getLsbD_eq (fun i hi => h i hi))
theorem b_or (x y : Int32) (i : Nat) : bt (x ||| y) i = (bt x i || bt y i) := by unfold bt; rw [Int32.toBitVec_or, BitVec.getLsbD_or]
theorem b_and (x y : Int32) (i : Nat) : bt (x &&& y) i = (bt x i && bt y i) := by unfold bt; rw [Int32.toBitVec_and, BitVec.getLsbD_and]
theorem b_xor (x y : Int32) (i : Nat) : bt (x ^^^ y) i = (bt x i ^^ bt y i) := by unfold bt; rw [Int32.toBitVec_xor, BitVec.getLsbD_xor]
theorem b_m1 : ∀ i, i < 32 → bt (-1) i = true := by decide +kernel
theorem b_0 (i : Nat) : bt 0 i = false := BitVec.getLsbD_zero
theorem s_l : ∀ n, n < 32 → ((nI n &&& 31).toBitVec.smod 32).toNat = n := by decide +kernel
theorem nx_and (a b : Nat) : nI a &&& nI b = nI (a &&& b) := by
  apply Int32.toBitVec_inj.1
  show BitVec.ofNat 32 a &&& BitVec.ofNat 32 b = BitVec.ofNat 32 (a &&& b)
  apply BitVec.eq_of_getLsbD_eq
  intro i hi
  simp [hi]
/-! bits -/
theorem fs_or (a b : Nat) : nI a ||| nI b = nI (a ||| b) := by
  apply Int32.toBitVec_inj.1
  show BitVec.ofNat 32 a ||| BitVec.ofNat 32 b = BitVec.ofNat 32 (a ||| b)
  apply BitVec.eq_of_getLsbD_eq
  intro i hi
  simp [hi]
theorem fs_nb (x y : Int32) : (x &&& (y ^^^ (-1))) = 0 ↔ x &&& y = x := by
  constructor
  · intro h
    apply b_ext
    intro i hi
    have h1 : bt (x &&& (y ^^^ (-1))) i = bt 0 i := by rw [h]
    rw [b_and, b_xor, b_m1 i hi, b_0] at h1
    rw [b_and]
    revert h1
    cases bt x i <;> cases bt y i <;> decide
  · intro h
    apply b_ext
    intro i hi
    have h1 : bt (x &&& y) i = bt x i := by rw [h]
    rw [b_and] at h1
    rw [b_and, b_xor, b_m1 i hi, b_0]
    revert h1
    cases bt x i <;> cases bt y i <;> decide
theorem fs_sub {s x : Nat} (hs : s < 256) : nI s &&& nI x = nI s ↔ s &&& x = s := by
  have h : s &&& x ≤ s := Nat.and_le_left
  rw [nx_and, nI_eq (by omega) (by omega)]
theorem fs_sub' {s x : Nat} (hs : s < 256) : nI x &&& nI s = nI s ↔ s &&& x = s := by
  have h : x &&& s ≤ s := Nat.and_le_right
  rw [nx_and, nI_eq (by omega) (by omega), Nat.and_comm]
theorem fs_no {s x : Nat} (hs : s < 256) : (nI s &&& (nI x ^^^ (-1))) = 0 ↔ s &&& x = s := (fs_nb _ _).trans (fs_sub hs)
theorem fs_dis {s x : Nat} (hs : s < 256) : (nI s &&& nI x) = 0 ↔ s &&& x = 0 := by
  have h : s &&& x ≤ s := Nat.and_le_left
  rw [nx_and, ← nI_0, nI_eq (by omega) (by omega)]
theorem fs_1sh : ∀ t, t < 8 → (1 : Int32) <<< (nI t &&& 31) = nI (2 ^ t) := by decide +kernel
theorem fs_put (s : Nat) {t : Nat} (ht : t < 8) : nI s ||| ((1 : Int32) <<< (nI t &&& 31)) = nI (s ||| 2 ^ t) := by
  rw [fs_1sh t ht, fs_or]
theorem fs_2lt : ∀ t, t < 8 → 2 ^ t < 256 := by decide
theorem fs_orlt {s x : Nat} (hs : s < 256) (hx : x < 256) : s ||| x < 256 := Nat.or_lt_two_pow (n := 8) hs hx
theorem fs_putlt {s t : Nat} (hs : s < 256) (ht : t < 8) : s ||| 2 ^ t < 256 := fs_orlt hs (fs_2lt t ht)
theorem fs_and7 : ∀ j, j < 8 → nI j &&& 7 = nI j := by decide +kernel
theorem fs_out1 : ∀ s, s < 256 → ∀ t, t < 8 → (s / 2 ^ t % 2 = 0 ↔ ¬ s ||| 2 ^ t = s) := by decide +kernel
theorem fs_out {s t : Nat} (hs : s < 256) (ht : t < 8) : ((nI s >>> (nI t &&& 31)) &&& 1) = 0 ↔ ¬ s ||| 2 ^ t = s := by
  have h : s / 2 ^ t ≤ s := Nat.div_le_self _ _
  rw [pk_shrN (by omega) _ t (s_l t (by omega)), pk_andN (by omega) 1 (by decide), ← nI_0, nI_eq (by omega) (by omega)]
  exact fs_out1 s hs t ht
/-! sets -/
theorem fs_in_put (s t : Nat) : s &&& (s ||| 2 ^ t) = s := by
  apply Nat.eq_of_testBit_eq
  intro i
  rw [Nat.testBit_and, Nat.testBit_or]
  cases s.testBit i <;> simp
theorem fs_in_tr {s t x : Nat} (h : s &&& t = s) (h2 : t &&& x = t) : s &&& x = s := by
  rw [← h, Nat.and_assoc, h2]
theorem fs_more {s x : Nat} (hx : x < 256) (hne : x ≠ s) (h : s &&& x = s) : ∃ t, t < 8 ∧ ¬ s ||| 2 ^ t = s ∧ (s ||| 2 ^ t) &&& x = s ||| 2 ^ t := by
  have hb : ∀ i, s.testBit i = true → x.testBit i = true := by
    intro i hi
    rw [← h, Nat.testBit_and] at hi
    cases hq : x.testBit i
    · rw [hq] at hi; simp at hi
    · rfl
  obtain ⟨t, ht⟩ := Nat.exists_testBit_ne_of_ne hne
  have hst : s.testBit t = false := by
    cases hq : s.testBit t
    · rfl
    · exact absurd ((hb t hq).trans hq.symm) ht
  have hxt : x.testBit t = true := by
    cases hq : x.testBit t
    · exact absurd (hq.trans hst.symm) ht
    · rfl
  have ht8 : t < 8 := by
    rcases Nat.lt_or_ge t 8 with h8 | h8
    · exact h8
    · have : x < 2 ^ t := Nat.lt_of_lt_of_le hx (Nat.pow_le_pow_right (n := 2) (by decide) h8)
      rw [Nat.testBit_lt_two_pow this] at hxt
      exact absurd hxt (by decide)
  refine ⟨t, ht8, ?_, ?_⟩
  · intro e
    have := congrArg (fun z => Nat.testBit z t) e
    rw [Nat.testBit_or, Nat.testBit_two_pow_self, hst] at this
    exact absurd this (by decide)
  · apply Nat.eq_of_testBit_eq
    intro i
    rw [Nat.testBit_and, Nat.testBit_or, Nat.testBit_two_pow]
    by_cases e : t = i
    · subst e
      rw [hxt, Bool.and_true]
    · rw [decide_eq_false e, Bool.or_false]
      cases hq : s.testBit i
      · rfl
      · rw [hb i hq]; rfl
/-! counts -/
def fs_cn (b : Nat → Nat) (s : Nat) : Nat → Nat
  | 0 => 0
  | n + 1 => if s &&& b n = s then fs_cn b s n + 1 else fs_cn b s n
theorem fs_cn_t {b : Nat → Nat} {s n : Nat} (h : s &&& b n = s) : fs_cn b s (n + 1) = fs_cn b s n + 1 := by rw [fs_cn, if_pos h]
theorem fs_cn_f {b : Nat → Nat} {s n : Nat} (h : ¬ s &&& b n = s) : fs_cn b s (n + 1) = fs_cn b s n := by rw [fs_cn, if_neg h]
theorem fs_cn_le (b : Nat → Nat) (s : Nat) : ∀ n, fs_cn b s n ≤ n := by
  intro n
  induction n with
  | zero => exact Nat.le_refl _
  | succ n ih =>
    rw [fs_cn]
    split <;> omega
theorem fs_cn_mono {b : Nat → Nat} {s x : Nat} (h : s &&& x = s) : ∀ n, fs_cn b x n ≤ fs_cn b s n := by
  intro n
  induction n with
  | zero => exact Nat.le_refl _
  | succ n ih =>
    by_cases hx : x &&& b n = x
    · rw [fs_cn_t hx, fs_cn_t (fs_in_tr h hx)]
      omega
    · rw [fs_cn_f hx, fs_cn]
      split <;> omega
def fs_top (b : Nat → Nat) (n s : Nat) : Nat → Nat
  | 0 => 0
  | t + 1 => if s ||| 2 ^ t = s then fs_top b n s t else if fs_cn b (s ||| 2 ^ t) n ≤ fs_top b n s t then fs_top b n s t else fs_cn b (s ||| 2 ^ t) n
theorem fs_top_le (b : Nat → Nat) (n s : Nat) : ∀ t, fs_top b n s t ≤ n := by
  intro t
  induction t with
  | zero => exact Nat.zero_le _
  | succ t ih =>
    have := fs_cn_le b (s ||| 2 ^ t) n
    rw [fs_top]
    split
    · exact ih
    · split
      · exact ih
      · exact this
theorem fs_top_lt {b : Nat → Nat} {n s c : Nat} (hc : 0 < c) : ∀ t, fs_top b n s t < c ↔ ∀ j, j < t → ¬ s ||| 2 ^ j = s → fs_cn b (s ||| 2 ^ j) n < c := by
  intro t
  induction t with
  | zero => exact ⟨fun _ j hj => absurd hj (by omega), fun _ => hc⟩
  | succ t ih =>
    have key : fs_top b n s (t + 1) < c ↔ fs_top b n s t < c ∧ (¬ s ||| 2 ^ t = s → fs_cn b (s ||| 2 ^ t) n < c) := by
      rw [fs_top]
      split
      · exact ⟨fun h => ⟨h, fun z => absurd ‹_› z⟩, fun h => h.1⟩
      · split
        · exact ⟨fun h => ⟨h, fun _ => by omega⟩, fun h => h.1⟩
        · exact ⟨fun h => ⟨by omega, fun _ => h⟩, fun h => h.2 ‹_›⟩
    rw [key, ih]
    constructor
    · intro h j hj hne
      rcases Nat.lt_or_ge j t with h1 | h1
      · exact h.1 j h1 hne
      · have e : j = t := by omega
        subst e
        exact h.2 hne
    · intro h
      exact ⟨fun j hj hne => h j (by omega) hne, fun hne => h t (by omega) hne⟩
theorem fs_top_all {b : Nat → Nat} {n s c : Nat} (hs : s < 256) (hc : 0 < c) : fs_top b n s 8 < c ↔ ∀ x, 1 ≤ x → x < 256 → x ≠ s → s &&& x = s → fs_cn b x n < c := by
  rw [fs_top_lt hc]
  constructor
  · intro h x _ hx hne hin
    obtain ⟨t, ht, h1, h2⟩ := fs_more hx hne hin
    exact Nat.lt_of_le_of_lt (fs_cn_mono h2 n) (h t ht h1)
  · intro h j hj hne
    refine h (s ||| 2 ^ j) ?_ (fs_putlt hs hj) hne (fs_in_put s j)
    exact Nat.le_trans (Nat.two_pow_pos j) Nat.right_le_or
/-! sums -/
def fs_sum (f : Nat → Nat) : Nat → Nat
  | 0 => 0
  | k + 1 => fs_sum f k + f k
theorem fs_sum_1 (f : Nat → Nat) (k : Nat) : fs_sum f (k + 1) = fs_sum f k + f k := rfl
theorem fs_sum_c {f g : Nat → Nat} : ∀ k, (∀ j, j < k → f j = g j) → fs_sum f k = fs_sum g k := by
  intro k
  induction k with
  | zero => intro _; rfl
  | succ k ih => intro h; rw [fs_sum_1, fs_sum_1, ih (fun j hj => h j (by omega)), h k (by omega)]
theorem fs_sum_0 : ∀ k, fs_sum (fun _ => 0) k = 0 := by
  intro k
  induction k with
  | zero => rfl
  | succ k ih => rw [fs_sum_1, ih]
theorem fs_sum_add (f g : Nat → Nat) : ∀ k, fs_sum (fun j => f j + g j) k = fs_sum f k + fs_sum g k := by
  intro k
  induction k with
  | zero => rfl
  | succ k ih => rw [fs_sum_1, fs_sum_1, fs_sum_1, ih]; omega
theorem fs_sum_swap (K : Nat → Nat → Nat) (c : Nat) : ∀ a, fs_sum (fun i => fs_sum (fun j => K i j) c) a = fs_sum (fun j => fs_sum (fun i => K i j) a) c := by
  intro a
  induction a with
  | zero => exact (fs_sum_0 c).symm
  | succ a ih =>
    rw [fs_sum_1, ih, ← fs_sum_add]
    exact fs_sum_c c (fun j _ => rfl)
theorem fs_sum_cut (f : Nat → Nat) (a : Nat) : ∀ k, a ≤ k → fs_sum (fun j => if j < a then f j else 0) k = fs_sum f a := by
  intro k
  induction k with
  | zero =>
    intro h
    have e : a = 0 := by omega
    subst e
    rfl
  | succ k ih =>
    intro h
    rcases Nat.lt_or_ge k a with h1 | h1
    · have e : a = k + 1 := by omega
      subst e
      exact fs_sum_c _ (fun j hj => if_pos hj)
    · rw [fs_sum_1, ih h1, if_neg (by omega)]
      rfl
theorem fs_sum_list (A : Nat → Bool) (f : Nat → Nat) : ∀ k, fs_sum (fun j => if A j = true then f j else 0) k = (((List.range k).filter A).map f).sum := by
  intro k
  induction k with
  | zero => rfl
  | succ k ih =>
    rw [fs_sum_1, ih, List.range_succ, List.filter_append, List.map_append, List.sum_append]
    congr 1
    cases h : A k <;> simp [h]
def fs_num (P : Nat → Bool) : Nat → Nat := fs_sum (fun s => if s = 0 then 0 else if P s = true then 1 else 0)
theorem fs_num_1 (P : Nat → Bool) : fs_num P 1 = 0 := rfl
theorem fs_num_t {P : Nat → Bool} {i : Nat} (hi : 1 ≤ i) (h : P i = true) : fs_num P (i + 1) = fs_num P i + 1 := by
  unfold fs_num
  rw [fs_sum_1, if_neg (by omega), if_pos h]
theorem fs_num_f {P : Nat → Bool} {i : Nat} (h : ¬ P i = true) : fs_num P (i + 1) = fs_num P i := by
  unfold fs_num
  rw [fs_sum_1]
  by_cases h0 : i = 0
  · rw [if_pos h0]; rfl
  · rw [if_neg h0, if_neg h]; rfl
