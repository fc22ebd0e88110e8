section
/-! 01: rows pasted from the rows to paste (pk_, b_, s_l, nx_), then bits and pure functions of our own -/
theorem pk_us {f : Nat → Int32} {k : Nat} {x : Int32} : upd f k x k = x := if_pos rfl
theorem pk_un {f : Nat → Int32} {k j : Nat} {x : Int32} (h : j ≠ k) : upd f k x j = f j := if_neg h
theorem pk_mul (a b : Nat) : nI a * nI b = nI (a * b) := (Int32.ofNat_mul a b).symm
theorem pk_le {x y : Int32} {A B : Prop} (a b : Nat) (f : a ≤ b → A) (g : b < a → B) (hx : x = nI a := by rfl) (hy : y = nI b := by rfl) (ha : a < 2 ^ 31 := by omega) (hb : b < 2 ^ 31 := by omega) : (x ≤ y → A) ∧ (¬ x ≤ y → B) := by
  subst hx hy
  rw [nI_leI ha hb]
  exact ⟨f, fun z => g (by omega)⟩
theorem pk_lt {x y : Int32} {A B : Prop} (a b : Nat) (f : a < b → A) (g : b ≤ a → B) (hx : x = nI a := by rfl) (hy : y = nI b := by rfl) (ha : a < 2 ^ 31 := by omega) (hb : b < 2 ^ 31 := by omega) : (x < y → A) ∧ (¬ x < y → B) := by
  subst hx hy
  rw [nI_ltI ha hb]
  exact ⟨f, fun z => g (by omega)⟩
theorem pk_eq {x y : Int32} {A B : Prop} (a b : Nat) (f : a = b → A) (g : a ≠ b → B) (hx : x = nI a := by rfl) (hy : y = nI b := by rfl) (ha : a < 2 ^ 31 := by omega) (hb : b < 2 ^ 31 := by omega) : (x = y → A) ∧ (¬ x = y → B) := by
  subst hx hy
  rw [nI_eq ha hb]
  exact ⟨f, g⟩
theorem pk_in {x : Int32} (n N : Nat) (h : n < N) (hx : x = nI n := by rfl) (hN : N < 2 ^ 31 := by omega) : vp_in x N := by
  subst hx
  exact vp_in_nI h hN
theorem pk_cl {x : Int32} (n : Nat) (hx : x = nI n := by rfl) (h : n < 2 ^ 31 := by omega) : x.toNatClampNeg = n := by
  subst hx
  exact nI_clamp h
theorem pk_tn {n : Nat} (h : n < 2 ^ 32) : (nI n).toBitVec.toNat = n := Nat.mod_eq_of_lt h
theorem pk_and (x : Int32) {m : Int32} (k : Nat) (hm : m.toBitVec.toNat = 2 ^ k - 1) : x &&& m = nI (x.toBitVec.toNat % 2 ^ k) := by
  apply Int32.toBitVec_inj.mp
  apply BitVec.eq_of_toNat_eq
  rw [Int32.toBitVec_and, BitVec.toNat_and, hm, Nat.and_two_pow_sub_one_eq_mod]
  show _ = (BitVec.ofNat 32 _).toNat
  rw [BitVec.toNat_ofNat]
  exact (Nat.mod_eq_of_lt (Nat.lt_of_le_of_lt (Nat.mod_le _ _) x.toBitVec.isLt)).symm
theorem pk_andN {n : Nat} (h : n < 2 ^ 32) {m : Int32} (k : Nat) (hm : m.toBitVec.toNat = 2 ^ k - 1) : nI n &&& m = nI (n % 2 ^ k) := by
  rw [pk_and _ k hm, pk_tn h]
theorem pk_shl (a s : Int32) (k : Nat) (hs : (s.toBitVec.smod 32).toNat = k) : (a <<< s).toBitVec.toNat = a.toBitVec.toNat * 2 ^ k % 2 ^ 32 := by
  show (a.toBitVec <<< (s.toBitVec.smod 32).toNat).toNat = _
  rw [hs, BitVec.toNat_shiftLeft, Nat.shiftLeft_eq]
theorem pk_shlN {n : Nat} (s : Int32) (k : Nat) (hs : (s.toBitVec.smod 32).toNat = k) (h : n * 2 ^ k < 2 ^ 32) : nI n <<< s = nI (n * 2 ^ k) := by
  apply Int32.toBitVec_inj.mp
  apply BitVec.eq_of_toNat_eq
  have hn : n < 2 ^ 32 := Nat.lt_of_le_of_lt (Nat.le_mul_of_pos_right n (Nat.two_pow_pos k)) h
  rw [pk_shl _ _ k hs, pk_tn hn, pk_tn h, Nat.mod_eq_of_lt h]
theorem pk_shr (a s : Int32) (k : Nat) (hs : (s.toBitVec.smod 32).toNat = k) : (a >>> s).toInt = a.toInt >>> k := by
  show (a.toBitVec.sshiftRight (s.toBitVec.smod 32).toNat).toInt = _
  rw [hs, BitVec.toInt_sshiftRight]
  rfl
theorem pk_shrN {n : Nat} (h : n < 2 ^ 31) (s : Int32) (k : Nat) (hs : (s.toBitVec.smod 32).toNat = k) : nI n >>> s = nI (n / 2 ^ k) := by
  apply Int32.toInt_inj.mp
  have h2 : n / 2 ^ k ≤ n := Nat.div_le_self _ _
  rw [pk_shr _ _ k hs, nI_toInt h, nI_toInt (by omega), Int.shiftRight_eq_div_pow]
  rfl
def bt (x : Int32) (i : Nat) : Bool := x.toBitVec.getLsbD i
theorem b_ext {x y : Int32} (h : ∀ i, i < 32 → bt x i = bt y i) : x = y := Int32.toBitVec_inj.mp (BitVec.eq_of_getLsbD_eq (fun i hi => h i hi))
theorem b_or (x y : Int32) (i : Nat) : bt (x ||| y) i = (bt x i || bt y i) := by unfold bt; rw [Int32.toBitVec_or, BitVec.getLsbD_or]
theorem b_and (x y : Int32) (i : Nat) : bt (x &&& y) i = (bt x i && bt y i) := by unfold bt; rw [Int32.toBitVec_and, BitVec.getLsbD_and]
theorem b_xor (x y : Int32) (i : Nat) : bt (x ^^^ y) i = (bt x i ^^ bt y i) := by unfold bt; rw [Int32.toBitVec_xor, BitVec.getLsbD_xor]
theorem b_m1 : ∀ i, i < 32 → bt (-1) i = true := by decide +kernel
theorem b_0 (i : Nat) : bt 0 i = false := BitVec.getLsbD_zero
theorem s_l : ∀ n, n < 32 → ((nI n &&& 31).toBitVec.smod 32).toNat = n := by decide +kernel
theorem nx_and (a b : Nat) : nI a &&& nI b = nI (a &&& b) := by
  apply Int32.toBitVec_inj.1
  show BitVec.ofNat 32 a &&& BitVec.ofNat 32 b = BitVec.ofNat 32 (a &&& b)
  apply BitVec.eq_of_getLsbD_eq
  intro i hi
  simp [hi]
/-! bits -/
theorem fs_or (a b : Nat) : nI a ||| nI b = nI (a ||| b) := by
  apply Int32.toBitVec_inj.1
  show BitVec.ofNat 32 a ||| BitVec.ofNat 32 b = BitVec.ofNat 32 (a ||| b)
  apply BitVec.eq_of_getLsbD_eq
  intro i hi
  simp [hi]
theorem fs_nb (x y : Int32) : (x &&& (y ^^^ (-1))) = 0 ↔ x &&& y = x := by
  constructor
  · intro h
    apply b_ext
    intro i hi
    have h1 : bt (x &&& (y ^^^ (-1))) i = bt 0 i := by rw [h]
    rw [b_and, b_xor, b_m1 i hi, b_0] at h1
    rw [b_and]
    revert h1
    cases bt x i <;> cases bt y i <;> decide
  · intro h
    apply b_ext
    intro i hi
    have h1 : bt (x &&& y) i = bt x i := by rw [h]
    rw [b_and] at h1
    rw [b_and, b_xor, b_m1 i hi, b_0]
    revert h1
    cases bt x i <;> cases bt y i <;> decide
theorem fs_sub {s x : Nat} (hs : s < 256) : nI s &&& nI x = nI s ↔ s &&& x = s := by
  have h : s &&& x ≤ s := Nat.and_le_left
  rw [nx_and, nI_eq (by omega) (by omega)]
theorem fs_sub' {s x : Nat} (hs : s < 256) : nI x &&& nI s = nI s ↔ s &&& x = s := by
  have h : x &&& s ≤ s := Nat.and_le_right
  rw [nx_and, nI_eq (by omega) (by omega), Nat.and_comm]
theorem fs_no {s x : Nat} (hs : s < 256) : (nI s &&& (nI x ^^^ (-1))) = 0 ↔ s &&& x = s := (fs_nb _ _).trans (fs_sub hs)
theorem fs_dis {s x : Nat} (hs : s < 256) : (nI s &&& nI x) = 0 ↔ s &&& x = 0 := by
  have h : s &&& x ≤ s := Nat.and_le_left
  rw [nx_and, ← nI_0, nI_eq (by omega) (by omega)]
theorem fs_1sh : ∀ t, t < 8 → (1 : Int32) <<< (nI t &&& 31) = nI (2 ^ t) := by decide +kernel
theorem fs_put (s : Nat) {t : Nat} (ht : t < 8) : nI s ||| ((1 : Int32) <<< (nI t &&& 31)) = nI (s ||| 2 ^ t) := by
  rw [fs_1sh t ht, fs_or]
theorem fs_2lt : ∀ t, t < 8 → 2 ^ t < 256 := by decide
theorem fs_orlt {s x : Nat} (hs : s < 256) (hx : x < 256) : s ||| x < 256 := Nat.or_lt_two_pow (n := 8) hs hx
theorem fs_putlt {s t : Nat} (hs : s < 256) (ht : t < 8) : s ||| 2 ^ t < 256 := fs_orlt hs (fs_2lt t ht)
theorem fs_and7 : ∀ j, j < 8 → nI j &&& 7 = nI j := by decide +kernel
theorem fs_out1 : ∀ s, s < 256 → ∀ t, t < 8 → (s / 2 ^ t % 2 = 0 ↔ ¬ s ||| 2 ^ t = s) := by decide +kernel
theorem fs_out {s t : Nat} (hs : s < 256) (ht : t < 8) : ((nI s >>> (nI t &&& 31)) &&& 1) = 0 ↔ ¬ s ||| 2 ^ t = s := by
  have h : s / 2 ^ t ≤ s := Nat.div_le_self _ _
  rw [pk_shrN (by omega) _ t (s_l t (by omega)), pk_andN (by omega) 1 (by decide), ← nI_0, nI_eq (by omega) (by omega)]
  exact fs_out1 s hs t ht
/-! sets -/
theorem fs_in_put (s t : Nat) : s &&& (s ||| 2 ^ t) = s := by
  apply Nat.eq_of_testBit_eq
  intro i
  rw [Nat.testBit_and, Nat.testBit_or]
  cases s.testBit i <;> simp
theorem fs_in_tr {s t x : Nat} (h : s &&& t = s) (h2 : t &&& x = t) : s &&& x = s := by
  rw [← h, Nat.and_assoc, h2]
theorem fs_more {s x : Nat} (hx : x < 256) (hne : x ≠ s) (h : s &&& x = s) : ∃ t, t < 8 ∧ ¬ s ||| 2 ^ t = s ∧ (s ||| 2 ^ t) &&& x = s ||| 2 ^ t := by
  have hb : ∀ i, s.testBit i = true → x.testBit i = true := by
    intro i hi
    rw [← h, Nat.testBit_and] at hi
    cases hq : x.testBit i
    · rw [hq] at hi; simp at hi
    · rfl
  obtain ⟨t, ht⟩ := Nat.exists_testBit_ne_of_ne hne
  have hst : s.testBit t = false := by
    cases hq : s.testBit t
    · rfl
    · exact absurd ((hb t hq).trans hq.symm) ht
  have hxt : x.testBit t = true := by
    cases hq : x.testBit t
    · exact absurd (hq.trans hst.symm) ht
    · rfl
  have ht8 : t < 8 := by
    rcases Nat.lt_or_ge t 8 with h8 | h8
    · exact h8
    · have : x < 2 ^ t := Nat.lt_of_lt_of_le hx (Nat.pow_le_pow_right (n := 2) (by decide) h8)
      rw [Nat.testBit_lt_two_pow this] at hxt
      exact absurd hxt (by decide)
  refine ⟨t, ht8, ?_, ?_⟩
  · intro e
    have := congrArg (fun z => Nat.testBit z t) e
    rw [Nat.testBit_or, Nat.testBit_two_pow_self, hst] at this
    exact absurd this (by decide)
  · apply Nat.eq_of_testBit_eq
    intro i
    rw [Nat.testBit_and, Nat.testBit_or, Nat.testBit_two_pow]
    by_cases e : t = i
    · subst e
      rw [hxt, Bool.and_true]
    · rw [decide_eq_false e, Bool.or_false]
      cases hq : s.testBit i
      · rfl
      · rw [hb i hq]; rfl
/-! counts -/
def fs_cn (b : Nat → Nat) (s : Nat) : Nat → Nat
  | 0 => 0
  | n + 1 => if s &&& b n = s then fs_cn b s n + 1 else fs_cn b s n
theorem fs_cn_t {b : Nat → Nat} {s n : Nat} (h : s &&& b n = s) : fs_cn b s (n + 1) = fs_cn b s n + 1 := by rw [fs_cn, if_pos h]
theorem fs_cn_f {b : Nat → Nat} {s n : Nat} (h : ¬ s &&& b n = s) : fs_cn b s (n + 1) = fs_cn b s n := by rw [fs_cn, if_neg h]
theorem fs_cn_le (b : Nat → Nat) (s : Nat) : ∀ n, fs_cn b s n ≤ n := by
  intro n
  induction n with
  | zero => exact Nat.le_refl _
  | succ n ih =>
    rw [fs_cn]
    split <;> omega
theorem fs_cn_mono {b : Nat → Nat} {s x : Nat} (h : s &&& x = s) : ∀ n, fs_cn b x n ≤ fs_cn b s n := by
  intro n
  induction n with
  | zero => exact Nat.le_refl _
  | succ n ih =>
    by_cases hx : x &&& b n = x
    · rw [fs_cn_t hx, fs_cn_t (fs_in_tr h hx)]
      omega
    · rw [fs_cn_f hx, fs_cn]
      split <;> omega
def fs_top (b : Nat → Nat) (n s : Nat) : Nat → Nat
  | 0 => 0
  | t + 1 => if s ||| 2 ^ t = s then fs_top b n s t else if fs_cn b (s ||| 2 ^ t) n ≤ fs_top b n s t then fs_top b n s t else fs_cn b (s ||| 2 ^ t) n
theorem fs_top_le (b : Nat → Nat) (n s : Nat) : ∀ t, fs_top b n s t ≤ n := by
  intro t
  induction t with
  | zero => exact Nat.zero_le _
  | succ t ih =>
    have := fs_cn_le b (s ||| 2 ^ t) n
    rw [fs_top]
    split
    · exact ih
    · split
      · exact ih
      · exact this
theorem fs_top_lt {b : Nat → Nat} {n s c : Nat} (hc : 0 < c) : ∀ t, fs_top b n s t < c ↔ ∀ j, j < t → ¬ s ||| 2 ^ j = s → fs_cn b (s ||| 2 ^ j) n < c := by
  intro t
  induction t with
  | zero => exact ⟨fun _ j hj => absurd hj (by omega), fun _ => hc⟩
  | succ t ih =>
    have key : fs_top b n s (t + 1) < c ↔ fs_top b n s t < c ∧ (¬ s ||| 2 ^ t = s → fs_cn b (s ||| 2 ^ t) n < c) := by
      rw [fs_top]
      split
      · exact ⟨fun h => ⟨h, fun z => absurd ‹_› z⟩, fun h => h.1⟩
      · split
        · exact ⟨fun h => ⟨h, fun _ => by omega⟩, fun h => h.1⟩
        · exact ⟨fun h => ⟨by omega, fun _ => h⟩, fun h => h.2 ‹_›⟩
    rw [key, ih]
    constructor
    · intro h j hj hne
      rcases Nat.lt_or_ge j t with h1 | h1
      · exact h.1 j h1 hne
      · have e : j = t := by omega
        subst e
        exact h.2 hne
    · intro h
      exact ⟨fun j hj hne => h j (by omega) hne, fun hne => h t (by omega) hne⟩
theorem fs_top_all {b : Nat → Nat} {n s c : Nat} (hs : s < 256) (hc : 0 < c) : fs_top b n s 8 < c ↔ ∀ x, 1 ≤ x → x < 256 → x ≠ s → s &&& x = s → fs_cn b x n < c := by
  rw [fs_top_lt hc]
  constructor
  · intro h x _ hx hne hin
    obtain ⟨t, ht, h1, h2⟩ := fs_more hx hne hin
    exact Nat.lt_of_le_of_lt (fs_cn_mono h2 n) (h t ht h1)
  · intro h j hj hne
    refine h (s ||| 2 ^ j) ?_ (fs_putlt hs hj) hne (fs_in_put s j)
    exact Nat.le_trans (Nat.two_pow_pos j) Nat.right_le_or
/-! sums -/
def fs_sum (f : Nat → Nat) : Nat → Nat
  | 0 => 0
  | k + 1 => fs_sum f k + f k
theorem fs_sum_1 (f : Nat → Nat) (k : Nat) : fs_sum f (k + 1) = fs_sum f k + f k := rfl
theorem fs_sum_c {f g : Nat → Nat} : ∀ k, (∀ j, j < k → f j = g j) → fs_sum f k = fs_sum g k := by
  intro k
  induction k with
  | zero => intro _; rfl
  | succ k ih => intro h; rw [fs_sum_1, fs_sum_1, ih (fun j hj => h j (by omega)), h k (by omega)]
theorem fs_sum_0 : ∀ k, fs_sum (fun _ => 0) k = 0 := by
  intro k
  induction k with
  | zero => rfl
  | succ k ih => rw [fs_sum_1, ih]
theorem fs_sum_add (f g : Nat → Nat) : ∀ k, fs_sum (fun j => f j + g j) k = fs_sum f k + fs_sum g k := by
  intro k
  induction k with
  | zero => rfl
  | succ k ih => rw [fs_sum_1, fs_sum_1, fs_sum_1, ih]; omega
theorem fs_sum_swap (K : Nat → Nat → Nat) (c : Nat) : ∀ a, fs_sum (fun i => fs_sum (fun j => K i j) c) a = fs_sum (fun j => fs_sum (fun i => K i j) a) c := by
  intro a
  induction a with
  | zero => exact (fs_sum_0 c).symm
  | succ a ih =>
    rw [fs_sum_1, ih, ← fs_sum_add]
    exact fs_sum_c c (fun j _ => rfl)
theorem fs_sum_cut (f : Nat → Nat) (a : Nat) : ∀ k, a ≤ k → fs_sum (fun j => if j < a then f j else 0) k = fs_sum f a := by
  intro k
  induction k with
  | zero =>
    intro h
    have e : a = 0 := by omega
    subst e
    rfl
  | succ k ih =>
    intro h
    rcases Nat.lt_or_ge k a with h1 | h1
    · have e : a = k + 1 := by omega
      subst e
      exact fs_sum_c _ (fun j hj => if_pos hj)
    · rw [fs_sum_1, ih h1, if_neg (by omega)]
      rfl
theorem fs_sum_list (A : Nat → Bool) (f : Nat → Nat) : ∀ k, fs_sum (fun j => if A j = true then f j else 0) k = (((List.range k).filter A).map f).sum := by
  intro k
  induction k with
  | zero => rfl
  | succ k ih =>
    rw [fs_sum_1, ih, List.range_succ, List.filter_append, List.map_append, List.sum_append]
    congr 1
    cases h : A k <;> simp [h]
def fs_num (P : Nat → Bool) : Nat → Nat := fs_sum (fun s => if s = 0 then 0 else if P s = true then 1 else 0)
theorem fs_num_1 (P : Nat → Bool) : fs_num P 1 = 0 := rfl
theorem fs_num_t {P : Nat → Bool} {i : Nat} (hi : 1 ≤ i) (h : P i = true) : fs_num P (i + 1) = fs_num P i + 1 := by
  unfold fs_num
  rw [fs_sum_1, if_neg (by omega), if_pos h]
theorem fs_num_f {P : Nat → Bool} {i : Nat} (h : ¬ P i = true) : fs_num P (i + 1) = fs_num P i := by
  unfold fs_num
  rw [fs_sum_1]
  by_cases h0 : i = 0
  · rw [if_pos h0]; rfl
  · rw [if_neg h0, if_neg h]; rfl
end
section
/-! 02: a rule is told by its first and second set, or by its first set and both together: the two sums are one -/
def fs_l1 (f : Nat) : List Nat := ((List.range 256).filter (fun g => !(Nat.beq g 0) && Nat.beq (f &&& g) 0)).map (fun g => f ||| g)
def fs_l2 (f : Nat) : List Nat := (List.range 256).filter (fun g => Nat.blt f g && Nat.beq (f &&& g) f)
theorem fs_tab : ∀ f, f < 256 → fs_l1 f = fs_l2 f := by decide +kernel
/-- G: what is asked of first set and both -/
theorem fs_re (G : Nat → Bool) {f : Nat} (hf : f < 256) : fs_sum (fun g => if g = 0 then 0 else if f &&& g = 0 ∧ G (f ||| g) = true then 1 else 0) 256 = fs_sum (fun c => if f < c ∧ f &&& c = f ∧ G c = true then 1 else 0) 256 := by
  have e1 : fs_sum (fun g => if g = 0 then 0 else if f &&& g = 0 ∧ G (f ||| g) = true then 1 else 0) 256 = fs_sum (fun g => if (!(Nat.beq g 0) && Nat.beq (f &&& g) 0) = true then (fun c => if G c = true then 1 else 0) (f ||| g) else 0) 256 := by
    refine fs_sum_c _ (fun g _ => ?_)
    by_cases h0 : g = 0
    · subst h0
      rfl
    · have hb : Nat.beq g 0 = false := by
        cases hq : Nat.beq g 0
        · rfl
        · exact absurd (Nat.eq_of_beq_eq_true hq) h0
      rw [if_neg h0, hb]
      by_cases h1 : f &&& g = 0
      · have hc : Nat.beq (f &&& g) 0 = true := by rw [h1]; rfl
        rw [hc]
        simp [h1]
      · have hc : Nat.beq (f &&& g) 0 = false := by
          cases hq : Nat.beq (f &&& g) 0
          · rfl
          · exact absurd (Nat.eq_of_beq_eq_true hq) h1
        rw [hc]
        simp [h1]
  have e2 : fs_sum (fun c => if f < c ∧ f &&& c = f ∧ G c = true then 1 else 0) 256 = fs_sum (fun c => if (Nat.blt f c && Nat.beq (f &&& c) f) = true then (fun c => if G c = true then 1 else 0) c else 0) 256 := by
    refine fs_sum_c _ (fun c _ => ?_)
    have hb : Nat.blt f c = true ↔ f < c := iff_of_eq Nat.blt_eq
    have hc : Nat.beq (f &&& c) f = true ↔ f &&& c = f := iff_of_eq Nat.beq_eq
    simp only [Bool.and_eq_true, hb, hc]
    by_cases h1 : f < c <;> by_cases h2 : f &&& c = f <;> simp [h1, h2]
  rw [e1, e2, fs_sum_list, fs_sum_list (fun c => Nat.blt f c && Nat.beq (f &&& c) f) (fun c => if G c = true then 1 else 0)]
  have e3 := fs_tab f hf
  unfold fs_l1 fs_l2 at e3
  rw [← e3, List.map_map]
  rfl
/-- the component's inner sum for both together -/
def fs_F (b : Nat → Nat) (n p both : Nat) : Nat → Nat := fun f => if f = 0 then 0 else if f &&& both = f ∧ p * fs_cn b f n ≤ fs_cn b both n * 100 then 1 else 0
def fs_Gx (b : Nat → Nat) (n m p : Nat) : Nat → Nat := fun both => if both = 0 then 0 else if m ≤ fs_cn b both n then fs_sum (fs_F b n p both) both else 0
/-- the reference's inner sum for a first set -/
def fs_H (b : Nat → Nat) (n m p f : Nat) : Nat → Nat := fun g => if g = 0 then 0 else if f &&& g = 0 ∧ (decide (m ≤ fs_cn b (f ||| g) n) && decide (p * fs_cn b f n ≤ 100 * fs_cn b (f ||| g) n)) = true then 1 else 0
def fs_Gy (b : Nat → Nat) (n m p : Nat) : Nat → Nat := fun f => if f = 0 then 0 else fs_sum (fs_H b n m p f) 256
def fs_K (b : Nat → Nat) (n m p f both : Nat) : Nat := if f = 0 then 0 else if f < both ∧ f &&& both = f ∧ (decide (m ≤ fs_cn b both n) && decide (p * fs_cn b f n ≤ 100 * fs_cn b both n)) = true then 1 else 0
theorem fs_Gx_K (b : Nat → Nat) (n m p : Nat) {both : Nat} (hb : both < 256) : fs_Gx b n m p both = fs_sum (fun f => fs_K b n m p f both) 256 := by
  unfold fs_Gx
  by_cases h0 : both = 0
  · subst h0
    refine (if_pos rfl).trans ((fs_sum_0 256).symm.trans ?_)
    refine fs_sum_c _ (fun f _ => ?_)
    unfold fs_K
    simp
  · rw [if_neg h0]
    by_cases h1 : m ≤ fs_cn b both n
    · rw [if_pos h1, ← fs_sum_cut (fs_F b n p both) both 256 (by omega)]
      refine fs_sum_c _ (fun f _ => ?_)
      unfold fs_F fs_K
      rw [Nat.mul_comm (fs_cn b both n) 100]
      by_cases h2 : f = 0
      · simp [h2]
      · by_cases h3 : f < both <;> simp [h1, h2, h3]
    · refine (if_neg h1).trans ((fs_sum_0 256).symm.trans ?_)
      refine fs_sum_c _ (fun f _ => ?_)
      unfold fs_K
      simp [h1]
theorem fs_Gy_K (b : Nat → Nat) (n m p : Nat) {f : Nat} (hf : f < 256) : fs_Gy b n m p f = fs_sum (fun both => fs_K b n m p f both) 256 := by
  unfold fs_Gy
  by_cases h0 : f = 0
  · subst h0
    refine (if_pos rfl).trans ((fs_sum_0 256).symm.trans ?_)
    exact fs_sum_c _ (fun _ _ => rfl)
  · rw [if_neg h0]
    have e := fs_re (fun c => decide (m ≤ fs_cn b c n) && decide (p * fs_cn b f n ≤ 100 * fs_cn b c n)) hf
    refine (Eq.trans ?_ e).trans ?_
    · rfl
    · refine fs_sum_c _ (fun c _ => ?_)
      unfold fs_K
      rw [if_neg h0]
theorem fs_rules (b : Nat → Nat) (n m p : Nat) : fs_sum (fs_Gx b n m p) 256 = fs_sum (fs_Gy b n m p) 256 := by
  rw [fs_sum_c 256 (fun both hb => fs_Gx_K b n m p hb), fs_sum_c (f := fs_Gy b n m p) 256 (fun f hf => fs_Gy_K b n m p hf)]
  exact fs_sum_swap (fun both f => fs_K b n m p f both) 256 256
end
section
/-! 03: the counts, on both sides -/
def fs_A (b : Nat → Nat) : Nat → Int32 := fun j => nI (b j)
theorem fs_at (b : Nat → Nat) {i : Nat} (hi : i < 2 ^ 31) : fs_A b (nI i).toNatClampNeg = nI (b i) := congrArg (fs_A b) (nI_clamp hi)
theorem fs_hasX {post : Int32 → Prop} {x : Int32} (c s : Nat) (hx : x = nI c) (hs : s < 256) (h1 : s &&& c = s → post 1) (h0 : ¬ s &&& c = s → post 0) : wpX_hasAll post x (nI s) := by
  subst hx
  by_cases h : s &&& c = s
  · exact br_t ((fs_sub' hs).mpr h) (h1 h)
  · exact br_f (fun z => h ((fs_sub' hs).mp z)) (h0 h)
theorem fs_cntX {post : Int32 → Prop} {b : Nat → Nat} {s n : Nat} (hs : s < 256) (hn : n ≤ 20) (hp : post (nI (fs_cn b s n))) : ∀ d i, i + d = n → wX_countOf_4 post (nI s) (nI n) (fs_A b) (d + 1) (nI (fs_cn b s i)) (nI i) := by
  intro d
  induction d with
  | zero =>
    intro i hi
    have e : i = n := by omega
    subst e
    exact br_t (nI_le (Nat.le_refl _) (by omega)) hp
  | succ d ih =>
    intro i hi
    have hi' := ih (i + 1) (by omega)
    refine br_f (nI_ge (by omega) (by omega)) ⟨vp_in_nI (by omega) (by omega), fs_hasX (b i) s (fs_at b (by omega)) hs (fun h => ?_) (fun h => ?_)⟩
    · rw [fs_cn_t h] at hi'
      exact br_f (by decide) (nm_r (nI_1 _) (nm_r (nI_1 i) hi'))
    · rw [fs_cn_f h] at hi'
      exact br_t rfl (nm_r (nI_1 i) hi')
theorem fs_countX {post : Int32 → Prop} {b : Nat → Nat} {s n : Nat} (hs : s < 256) (hn : n ≤ 20) (hp : post (nI (fs_cn b s n))) : wpX_countOf post (nI n, fs_A b) (nI s) := ⟨n + 1, fs_cntX hs hn hp n 0 (by omega)⟩
/-! the reference's table of counts -/
theorem fs_uu (c : Nat → Int32) (k : Nat) (x y : Int32) : upd (upd c k x) k y = upd c k y := by
  funext j
  by_cases h : j = k
  · subst h; rw [pk_us, pk_us]
  · rw [pk_un h, pk_un h, pk_un h]
def fs_C (b : Nat → Nat) (n : Nat) (c : Nat → Int32) (s : Nat) : Nat → Int32 := fun j => if j < s then nI (fs_cn b j n) else c j
theorem fs_C_s (b : Nat → Nat) (n : Nat) (c : Nat → Int32) (s : Nat) : upd (fs_C b n c s) s (nI (fs_cn b s n)) = fs_C b n c (s + 1) := by
  funext j
  by_cases h : j = s
  · subst h
    rw [pk_us]
    exact (if_pos (Nat.lt_succ_self j)).symm
  · rw [pk_un h]
    unfold fs_C
    by_cases h1 : j < s
    · rw [if_pos h1, if_pos (by omega)]
    · rw [if_neg h1, if_neg (by omega)]
theorem fs_cy1 {post : SY → Prop} {J : Int32 → (Nat → Int32) → (Nat → Int32) → Prop} {b : Nat → Nat} {c : Nat → Int32} {s n : Nat} (hs : s < 256) (hn : n ≤ 20) (hJ : J (nI (s + 1)) (fs_A b) (upd c s (nI (fs_cn b s n)))) : ∀ d i, i + d = n → wY_countAll_18 post J (nI s) (nI n) (d + 1) (nI i) (fs_A b) (upd c s (nI (fs_cn b s i))) := by
  intro d
  induction d with
  | zero =>
    intro i hi
    have e : i = n := by omega
    subst e
    exact br_t (nI_le (Nat.le_refl _) (by omega)) (nm_r (nI_1 s) hJ)
  | succ d ih =>
    intro i hi
    have hi' := ih (i + 1) (by omega)
    refine br_f (nI_ge (by omega) (by omega)) ⟨vp_in_nI (by omega) (by omega), ?_⟩
    rw [fs_at b (by omega)]
    by_cases h : s &&& b i = s
    · rw [fs_cn_t h] at hi'
      refine br_t ((fs_no hs).mpr h) ⟨vp_in_nI hs (by omega), vp_in_nI hs (by omega), nm_r ?_ (nm_r (nI_1 i) hi')⟩
      rw [nI_clamp (by omega), pk_us, fs_uu, nI_1]
    · rw [fs_cn_f h] at hi'
      exact br_f (fun z => h ((fs_no hs).mp z)) (nm_r (nI_1 i) hi')
theorem fs_cy2 {post : SY → Prop} {b : Nat → Nat} {c : Nat → Int32} {n : Nat} (hn : n ≤ 20) (hp : post (nI n, fs_A b, fs_C b n c 256)) : ∀ d s, s + d = 256 → wY_countAll_2 post (nI n) (d + 1) (nI s) (fs_A b) (fs_C b n c s) := by
  intro d
  induction d with
  | zero =>
    intro s hs
    have e : s = 256 := by omega
    subst e
    exact br_t (nI_le (a := 256) (b := 256) (Nat.le_refl _) (by omega)) hp
  | succ d ih =>
    intro s hs
    have hi' := ih (s + 1) (by omega)
    rw [← fs_C_s] at hi'
    refine br_f (nI_ge (b := 256) (by omega) (by omega)) ⟨vp_in_nI (by omega) (by omega), nm_r (e' := upd (fs_C b n c s) s (nI (fs_cn b s 0))) ?_ ⟨n + 1, fs_cy1 (by omega) hn hi' n 0 (by omega)⟩⟩
    rw [nI_clamp (by omega)]
    exact congrArg _ nI_0.symm
theorem fs_allY {post : SY → Prop} {b : Nat → Nat} {c : Nat → Int32} {n : Nat} (hn : n ≤ 20) (hp : ∀ c', (∀ s, s < 256 → c' s = nI (fs_cn b s n)) → post (nI n, fs_A b, c')) : wpY_countAll post (nI n, fs_A b, c) := by
  refine ⟨257, ?_⟩
  have h := fs_cy2 (post := post) (b := b) (c := c) hn (hp _ (fun s hs => if_pos hs)) 256 0 (by omega)
  have e : fs_C b n c 0 = c := by
    funext j
    exact if_neg (by omega)
  rw [e] at h
  exact h
theorem fs_ct {b : Nat → Nat} {n : Nat} {c : Nat → Int32} (hc : ∀ s, s < 256 → c s = nI (fs_cn b s n)) {s : Nat} (hs : s < 256) : c (nI s).toNatClampNeg = nI (fs_cn b s n) := by
  rw [nI_clamp (by omega)]
  exact hc s hs
end
section
/-! 04: the component's methods, each with a general post -/
def fs_Pf (b : Nat → Nat) (n m : Nat) : Nat → Bool := fun s => decide (m ≤ fs_cn b s n)
def fs_Pc (b : Nat → Nat) (n m : Nat) : Nat → Bool := fun s => decide (m ≤ fs_cn b s n ∧ fs_top b n s 8 < fs_cn b s n)
def fs_Pl (b : Nat → Nat) (n m : Nat) : Nat → Bool := fun s => decide (m ≤ fs_cn b s n ∧ fs_top b n s 8 < m)
/-! frequent -/
theorem fs_frX {post : Int32 → Prop} {b : Nat → Nat} {n m : Nat} (hn : n ≤ 20) (hm : m ≤ 20) (hp : post (nI (fs_num (fs_Pf b n m) 256))) : ∀ d i, 1 ≤ i → i + d = 256 → wX_frequent_13 post (nI m) (nI n) (fs_A b) (d + 1) (nI (fs_num (fs_Pf b n m) i)) (nI i) := by
  intro d
  induction d with
  | zero =>
    intro i _ hi
    have e : i = 256 := by omega
    subst e
    exact br_t (nI_lt (a := 255) (b := 256) (by omega) (by omega)) hp
  | succ d ih =>
    intro i h1 hi
    have hi' := ih (i + 1) (by omega) (by omega)
    have hc := fs_cn_le b i n
    refine br_f (nI_nlt (a := 255) (by omega) (by omega)) (fs_countX (by omega) hn (pk_lt (fs_cn b i n) m (fun h => ?_) (fun h => ?_)))
    · rw [fs_num_f (P := fs_Pf b n m) (i := i) (by unfold fs_Pf; simp; omega)] at hi'
      exact nm_r (nI_1 i) hi'
    · rw [fs_num_t (P := fs_Pf b n m) h1 (decide_eq_true h)] at hi'
      exact nm_r (nI_1 _) (nm_r (nI_1 i) hi')
/-! one thing more -/
theorem fs_gcX {post : Int32 → Prop} {b : Nat → Nat} {n s : Nat} (hn : n ≤ 20) (hs : s < 256) (hp : post (nI (fs_top b n s 8))) : ∀ d t, t + d = 8 → wX_greatestCountAbove_4 post (nI s) (nI n) (fs_A b) (d + 1) (nI (fs_top b n s t)) (nI t) := by
  intro d
  induction d with
  | zero =>
    intro t ht
    have e : t = 8 := by omega
    subst e
    exact br_t (nI_le (a := 8) (b := 8) (by omega) (by omega)) hp
  | succ d ih =>
    intro t ht
    have hi' := ih (t + 1) (by omega)
    have ht8 : t < 8 := by omega
    have hlt := fs_putlt hs ht8
    have hc := fs_cn_le b (s ||| 2 ^ t) n
    have hg := fs_top_le b n s t
    refine br_f (nI_ge (b := 8) ht8 (by omega)) (nm_r (fs_put s ht8) (fs_countX hlt hn (pk_eq (s ||| 2 ^ t) s (fun h => ?_) (fun h => pk_le (fs_cn b (s ||| 2 ^ t) n) (fs_top b n s t) (fun h2 => ?_) (fun h2 => ?_)))))
    · rw [fs_top, if_pos h] at hi'
      exact nm_r (nI_1 t) hi'
    · rw [fs_top, if_neg h, if_pos h2] at hi'
      exact nm_r (nI_1 t) hi'
    · rw [fs_top, if_neg h, if_neg (by omega)] at hi'
      exact nm_r (nI_1 t) hi'
theorem fs_topX {post : Int32 → Prop} {b : Nat → Nat} {n s : Nat} (hn : n ≤ 20) (hs : s < 256) (hp : post (nI (fs_top b n s 8))) : wpX_greatestCountAbove post (nI n, fs_A b) (nI s) := ⟨9, fs_gcX hn hs hp 8 0 (by omega)⟩
/-! closed -/
theorem fs_isClX {post : Int32 → Prop} {b : Nat → Nat} {n m s : Nat} (hn : n ≤ 20) (hm : m ≤ 20) (hs : s < 256) (h1 : fs_Pc b n m s = true → post 1) (h0 : ¬ fs_Pc b n m s = true → post 0) : wpX_isClosed post (nI n, fs_A b) (nI s) (nI m) := by
  have hc := fs_cn_le b s n
  have hg := fs_top_le b n s 8
  unfold wpX_isClosed
  dsimp only
  refine fs_countX hs hn (pk_lt (fs_cn b s n) m (fun h => ?_) (fun h => fs_topX hn hs (pk_le (fs_cn b s n) (fs_top b n s 8) (fun h2 => ?_) (fun h2 => ?_))))
  · exact h0 (by unfold fs_Pc; rw [decide_eq_true_iff]; omega)
  · exact h0 (by unfold fs_Pc; rw [decide_eq_true_iff]; omega)
  · exact h1 (by unfold fs_Pc; rw [decide_eq_true_iff]; omega)
theorem fs_clX {post : Int32 → Prop} {b : Nat → Nat} {n m : Nat} (hn : n ≤ 20) (hm : m ≤ 20) (hp : post (nI (fs_num (fs_Pc b n m) 256))) : ∀ d i, 1 ≤ i → i + d = 256 → wX_closed_13 post (nI m) (nI n) (fs_A b) (d + 1) (nI (fs_num (fs_Pc b n m) i)) (nI i) := by
  intro d
  induction d with
  | zero =>
    intro i _ hi
    have e : i = 256 := by omega
    subst e
    exact br_t (nI_lt (a := 255) (b := 256) (by omega) (by omega)) hp
  | succ d ih =>
    intro i h1 hi
    have hi' := ih (i + 1) (by omega) (by omega)
    refine br_f (nI_nlt (a := 255) (by omega) (by omega)) (fs_isClX hn hm (by omega) (fun h => ?_) (fun h => ?_))
    · rw [fs_num_t h1 h] at hi'
      exact br_f (by decide) (nm_r (nI_1 _) (nm_r (nI_1 i) hi'))
    · rw [fs_num_f h] at hi'
      exact br_t rfl (nm_r (nI_1 i) hi')
/-! largest -/
theorem fs_isLaX {post : Int32 → Prop} {b : Nat → Nat} {n m s : Nat} (hn : n ≤ 20) (hm : m ≤ 20) (hs : s < 256) (h1 : fs_Pl b n m s = true → post 1) (h0 : ¬ fs_Pl b n m s = true → post 0) : wpX_isLargest post (nI n, fs_A b) (nI s) (nI m) := by
  have hc := fs_cn_le b s n
  have hg := fs_top_le b n s 8
  unfold wpX_isLargest
  dsimp only
  refine fs_countX hs hn (pk_lt (fs_cn b s n) m (fun h => ?_) (fun h => fs_topX hn hs (pk_le m (fs_top b n s 8) (fun h2 => ?_) (fun h2 => ?_))))
  · exact h0 (by unfold fs_Pl; rw [decide_eq_true_iff]; omega)
  · exact h0 (by unfold fs_Pl; rw [decide_eq_true_iff]; omega)
  · exact h1 (by unfold fs_Pl; rw [decide_eq_true_iff]; omega)
theorem fs_laX {post : Int32 → Prop} {b : Nat → Nat} {n m : Nat} (hn : n ≤ 20) (hm : m ≤ 20) (hp : post (nI (fs_num (fs_Pl b n m) 256))) : ∀ d i, 1 ≤ i → i + d = 256 → wX_largest_13 post (nI m) (nI n) (fs_A b) (d + 1) (nI (fs_num (fs_Pl b n m) i)) (nI i) := by
  intro d
  induction d with
  | zero =>
    intro i _ hi
    have e : i = 256 := by omega
    subst e
    exact br_t (nI_lt (a := 255) (b := 256) (by omega) (by omega)) hp
  | succ d ih =>
    intro i h1 hi
    have hi' := ih (i + 1) (by omega) (by omega)
    refine br_f (nI_nlt (a := 255) (by omega) (by omega)) (fs_isLaX hn hm (by omega) (fun h => ?_) (fun h => ?_))
    · rw [fs_num_t h1 h] at hi'
      exact br_f (by decide) (nm_r (nI_1 _) (nm_r (nI_1 i) hi'))
    · rw [fs_num_f h] at hi'
      exact br_t rfl (nm_r (nI_1 i) hi')
/-! closedSet: d sets are left, i is the next, c closed ones stood before it -/
def fs_cs (P : Nat → Bool) (k : Int32) : Nat → Nat → Nat → Int32
  | 0, _, _ => -3
  | d + 1, i, c => if P i = true then (if nI c = k then nI i else fs_cs P k d (i + 1) (c + 1)) else fs_cs P k d (i + 1) c
theorem fs_csX {post : Int32 → Prop} {b : Nat → Nat} {n m : Nat} (k : Int32) (hn : n ≤ 20) (hm : m ≤ 20) : ∀ d i c, i + d = 256 → post (fs_cs (fs_Pc b n m) k d i c) → wX_closedSet_14 post (nI m) k (nI n) (fs_A b) (d + 1) (nI c) (nI i) := by
  intro d
  induction d with
  | zero =>
    intro i c hi hp
    have e : i = 256 := by omega
    subst e
    exact br_t (nI_lt (a := 255) (b := 256) (by omega) (by omega)) hp
  | succ d ih =>
    intro i c hi hp
    refine br_f (nI_nlt (a := 255) (by omega) (by omega)) (fs_isClX hn hm (by omega) (fun h => ?_) (fun h => ?_))
    · rw [fs_cs, if_pos h] at hp
      refine br_f (by decide) (br_c (fun hk => ?_) (fun hk => ?_))
      · rw [if_pos hk] at hp
        exact hp
      · rw [if_neg hk] at hp
        exact nm_r (nI_1 _) (nm_r (nI_1 i) (ih (i + 1) (c + 1) (by omega) hp))
    · rw [fs_cs, if_neg h] at hp
      exact br_t rfl (nm_r (nI_1 i) (ih (i + 1) c (by omega) hp))
/-! closure -/
def fs_cm (b : Nat → Nat) (s : Nat) : Nat → Int32
  | 0 => 255
  | i + 1 => if s &&& b i = s then fs_cm b s i &&& nI (b i) else fs_cm b s i
theorem fs_cmX {post : Int32 → Prop} {b : Nat → Nat} {s n : Nat} (hs : s < 256) (hn : n ≤ 20) (hp : post (fs_cm b s n)) : ∀ d i, i + d = n → wX_closure_26 post (nI s) (nI n) (fs_A b) (d + 1) (fs_cm b s i) (nI i) := by
  intro d
  induction d with
  | zero =>
    intro i hi
    have e : i = n := by omega
    subst e
    exact br_t (nI_le (Nat.le_refl _) (by omega)) hp
  | succ d ih =>
    intro i hi
    have hi' := ih (i + 1) (by omega)
    have hin : vp_in (nI i) 20 := vp_in_nI (by omega) (by omega)
    refine br_f (nI_ge (by omega) (by omega)) ⟨hin, fs_hasX (b i) s (fs_at b (by omega)) hs (fun h => ?_) (fun h => ?_)⟩
    · rw [fs_cm, if_pos h] at hi'
      exact br_f (by decide) ⟨hin, nm_r (congrArg _ (fs_at b (by omega))) (nm_r (nI_1 i) hi')⟩
    · rw [fs_cm, if_neg h] at hi'
      exact br_t rfl (nm_r (nI_1 i) hi')
/-! widest -/
def fs_th (x : Int32) : Nat → Int32
  | 0 => 0
  | t + 1 => fs_th x t + ((x >>> (nI t &&& 31)) &&& 1)
theorem fs_thX {post : Int32 → Prop} {x : Int32} (hp : post (fs_th x 8)) : ∀ d t, t + d = 8 → wX_thingsIn_4 post x (d + 1) (fs_th x t) (nI t) := by
  intro d
  induction d with
  | zero =>
    intro t ht
    have e : t = 8 := by omega
    subst e
    exact br_t (nI_le (a := 8) (b := 8) (by omega) (by omega)) hp
  | succ d ih =>
    intro t ht
    exact br_f (nI_ge (b := 8) (by omega) (by omega)) (nm_e (nm_r (nI_1 t) (ih (t + 1) (by omega))))
theorem fs_thingsX {post : Int32 → Prop} {x : Int32} (hp : post (fs_th x 8)) : wpX_thingsIn post x := ⟨9, fs_thX hp 8 0 (by omega)⟩
def fs_wd (b : Nat → Nat) (n m : Nat) : Nat → Int32
  | 0 => 0
  | i + 1 => if i = 0 then 0 else if m ≤ fs_cn b i n ∧ ¬ fs_th (nI i) 8 ≤ fs_wd b n m i then fs_th (nI i) 8 else fs_wd b n m i
theorem fs_wd_t {b : Nat → Nat} {n m i : Nat} (hi : 1 ≤ i) (h : m ≤ fs_cn b i n) (h2 : ¬ fs_th (nI i) 8 ≤ fs_wd b n m i) : fs_wd b n m (i + 1) = fs_th (nI i) 8 := by
  rw [fs_wd, if_neg (by omega), if_pos ⟨h, h2⟩]
theorem fs_wd_f {b : Nat → Nat} {n m i : Nat} (hi : 1 ≤ i) (h : ¬ (m ≤ fs_cn b i n ∧ ¬ fs_th (nI i) 8 ≤ fs_wd b n m i)) : fs_wd b n m (i + 1) = fs_wd b n m i := by
  rw [fs_wd, if_neg (by omega), if_neg h]
theorem fs_wdX {post : Int32 → Prop} {b : Nat → Nat} {n m : Nat} (hn : n ≤ 20) (hm : m ≤ 20) (hp : post (fs_wd b n m 256)) : ∀ d i, 1 ≤ i → i + d = 256 → wX_widest_13 post (nI m) (nI n) (fs_A b) (d + 1) (fs_wd b n m i) (nI i) := by
  intro d
  induction d with
  | zero =>
    intro i _ hi
    have e : i = 256 := by omega
    subst e
    exact br_t (nI_lt (a := 255) (b := 256) (by omega) (by omega)) hp
  | succ d ih =>
    intro i h1 hi
    have hi' := ih (i + 1) (by omega) (by omega)
    have hc := fs_cn_le b i n
    refine br_f (nI_nlt (a := 255) (by omega) (by omega)) (fs_thingsX (br_c (fun h => ?_) (fun h => fs_countX (by omega) hn (pk_lt (fs_cn b i n) m (fun h2 => ?_) (fun h2 => ?_)))))
    · rw [fs_wd_f h1 (fun z => z.2 h)] at hi'
      exact nm_r (nI_1 i) hi'
    · rw [fs_wd_f h1 (fun z => absurd z.1 (by omega))] at hi'
      exact nm_r (nI_1 i) hi'
    · rw [fs_wd_t h1 h2 h] at hi'
      exact nm_r (nI_1 i) hi'
/-! rules -/
theorem fs_rwX {post : Int32 → Prop} {b : Nat → Nat} {n p q : Nat} (hn : n ≤ 20) (hq : p ≤ 100) (hb : q < 256) (hp : post (nI (fs_sum (fs_F b n p q) q))) : ∀ d i, 1 ≤ i → i + d = q → wX_rulesWithin_6 post (nI q) (nI (fs_cn b q n)) (nI p) (nI n) (fs_A b) (d + 1) (nI (fs_sum (fs_F b n p q) i)) (nI i) := by
  intro d
  induction d with
  | zero =>
    intro i _ hi
    have e : i = q := by omega
    subst e
    exact br_t (nI_le (Nat.le_refl _) (by omega)) hp
  | succ d ih =>
    intro i h1 hi
    have hi' := ih (i + 1) (by omega) (by omega)
    rw [fs_sum_1] at hi'
    have hc := fs_cn_le b q n
    have hd := fs_cn_le b i n
    have hpc : p * fs_cn b i n ≤ 100 * 20 := Nat.mul_le_mul hq (by omega)
    refine br_f (nI_ge (by omega) (by omega)) (fs_hasX q i rfl (by omega) (fun h => br_f (by decide) (fs_countX (by omega) hn (pk_lt (fs_cn b q n * 100) (p * fs_cn b i n) (fun h2 => ?_) (fun h2 => ?_) (pk_mul _ 100) (pk_mul _ _)))) (fun h => ?_))
    · have e : fs_F b n p q i = 0 := by
        unfold fs_F
        rw [if_neg (by omega), if_neg (by omega)]
      rw [e] at hi'
      exact nm_r (nI_1 i) hi'
    · have e : fs_F b n p q i = 1 := by
        unfold fs_F
        rw [if_neg (by omega), if_pos ⟨h, h2⟩]
      rw [e] at hi'
      exact nm_r (nI_1 _) (nm_r (nI_1 i) hi')
    · have e : fs_F b n p q i = 0 := by
        unfold fs_F
        rw [if_neg (by omega), if_neg (fun z => h z.1)]
      rw [e] at hi'
      exact br_t rfl (nm_r (nI_1 i) hi')
theorem fs_withinX {post : Int32 → Prop} {b : Nat → Nat} {n p q : Nat} (hn : n ≤ 20) (hq : p ≤ 100) (hb : q < 256) (h1 : 1 ≤ q) (hp : post (nI (fs_sum (fs_F b n p q) q))) : wpX_rulesWithin post (nI n, fs_A b) (nI q) (nI (fs_cn b q n)) (nI p) := ⟨q - 1 + 1, fs_rwX hn hq hb hp (q - 1) 1 (by omega) (by omega)⟩
theorem fs_ruX {post : Int32 → Prop} {b : Nat → Nat} {n m p : Nat} (hn : n ≤ 20) (hm : m ≤ 20) (hq : p ≤ 100) (hp : post (nI (fs_sum (fs_Gx b n m p) 256))) : ∀ d i, 1 ≤ i → i + d = 256 → wX_rules_24 post (nI m) (nI p) (nI n) (fs_A b) (d + 1) (nI (fs_sum (fs_Gx b n m p) i)) (nI i) := by
  intro d
  induction d with
  | zero =>
    intro i _ hi
    have e : i = 256 := by omega
    subst e
    exact br_t (nI_lt (a := 255) (b := 256) (by omega) (by omega)) hp
  | succ d ih =>
    intro i h1 hi
    have hi' := ih (i + 1) (by omega) (by omega)
    rw [fs_sum_1] at hi'
    have hc := fs_cn_le b i n
    refine br_f (nI_nlt (a := 255) (by omega) (by omega)) (fs_countX (by omega) hn (pk_lt (fs_cn b i n) m (fun h => ?_) (fun h => fs_withinX hn hq (by omega) h1 ?_)))
    · have e : fs_Gx b n m p i = 0 := by
        unfold fs_Gx
        rw [if_neg (by omega), if_neg (by omega)]
      rw [e] at hi'
      exact nm_r (nI_1 i) hi'
    · have e : fs_Gx b n m p i = fs_sum (fs_F b n p i) i := by
        unfold fs_Gx
        rw [if_neg (by omega), if_pos h]
      rw [e] at hi'
      exact nm_r (nI_add _ _) (nm_r (nI_1 i) hi')
/-! companion -/
def fs_bst (b : Nat → Nat) (n s : Nat) : Nat → Option Nat
  | 0 => none
  | t + 1 => if s ||| 2 ^ t = s then fs_bst b n s t else match fs_bst b n s t with
    | none => some t
    | some j => if fs_cn b (s ||| 2 ^ t) n ≤ fs_cn b (s ||| 2 ^ j) n then some j else some t
theorem fs_bst_in {b : Nat → Nat} {n s : Nat} : ∀ t j, fs_bst b n s t = some j → j < t := by
  intro t
  induction t with
  | zero => intro j h; exact absurd h (by simp [fs_bst])
  | succ t ih =>
    intro j h
    rw [fs_bst] at h
    split at h
    · have := ih j h; omega
    · split at h
      · cases h; omega
      · split at h
        · cases h
          have := ih _ ‹_›
          omega
        · cases h; omega
theorem fs_bst_none {b : Nat → Nat} {n s : Nat} : ∀ k, fs_bst b n s k = none ↔ ∀ t, t < k → s ||| 2 ^ t = s := by
  intro k
  induction k with
  | zero => exact ⟨fun _ t ht => absurd ht (by omega), fun _ => rfl⟩
  | succ k ih =>
    rw [fs_bst]
    by_cases h : s ||| 2 ^ k = s
    · rw [if_pos h, ih]
      constructor
      · intro z t ht
        rcases Nat.lt_or_ge t k with h1 | h1
        · exact z t h1
        · have e : t = k := by omega
          subst e
          exact h
      · intro z t ht
        exact z t (by omega)
    · rw [if_neg h]
      constructor
      · intro z
        split at z
        · cases z
        · split at z <;> cases z
      · intro z
        exact absurd (z k (by omega)) h
def fs_xb (o : Option Nat) : Int32 := match o with
  | none => -3
  | some j => nI j
def fs_xc (b : Nat → Nat) (n s : Nat) (o : Option Nat) : Int32 := match o with
  | none => -1
  | some j => nI (fs_cn b (s ||| 2 ^ j) n)
def fs_yb (o : Option Nat) : Int32 := match o with
  | none => -1
  | some j => nI j
theorem fs_nm1 {a : Nat} (h : a < 2 ^ 31) : ¬ nI a ≤ -1 := by
  rw [Int32.le_iff_toInt_le, nI_toInt h, show (-1 : Int32).toInt = -1 from by decide]
  omega
theorem fs_coX {post : Int32 → Prop} {b : Nat → Nat} {n s : Nat} (hn : n ≤ 20) (hs : s < 256) (hp : post (fs_xb (fs_bst b n s 8))) : ∀ d t, t + d = 8 → wX_companion_32 post (nI s) (nI n) (fs_A b) (d + 1) (fs_xb (fs_bst b n s t)) (fs_xc b n s (fs_bst b n s t)) (nI t) := by
  intro d
  induction d with
  | zero =>
    intro t ht
    have e : t = 8 := by omega
    subst e
    exact br_t (nI_le (a := 8) (b := 8) (by omega) (by omega)) hp
  | succ d ih =>
    intro t ht
    have hi' := ih (t + 1) (by omega)
    have ht8 : t < 8 := by omega
    have hlt := fs_putlt hs ht8
    have hc := fs_cn_le b (s ||| 2 ^ t) n
    rw [fs_bst] at hi'
    refine br_f (nI_ge (b := 8) ht8 (by omega)) (nm_r (fs_put s ht8) (fs_countX hlt hn (pk_eq (s ||| 2 ^ t) s (fun h => ?_) (fun h => ?_))))
    · rw [if_pos h] at hi'
      exact nm_r (nI_1 t) hi'
    · rw [if_neg h] at hi'
      cases ho : fs_bst b n s t with
      | none =>
        rw [ho] at hi'
        exact br_f (fs_nm1 (by omega)) (nm_r (nI_1 t) hi')
      | some j =>
        rw [ho] at hi'
        dsimp only at hi'
        have hj := fs_cn_le b (s ||| 2 ^ j) n
        refine pk_le (fs_cn b (s ||| 2 ^ t) n) (fs_cn b (s ||| 2 ^ j) n) (fun h2 => ?_) (fun h2 => ?_)
        · rw [if_pos h2] at hi'
          exact nm_r (nI_1 t) hi'
        · rw [if_neg (by omega)] at hi'
          exact nm_r (nI_1 t) hi'
end
section
/-! 05: the reference's methods over a full table of counts, each with a general post -/
theorem fs_frY {post : Int32 → SY → Prop} {b : Nat → Nat} {c : Nat → Int32} {n m : Nat} (hn : n ≤ 20) (hm : m ≤ 20) (hc : ∀ s, s < 256 → c s = nI (fs_cn b s n)) (hp : post (nI (fs_num (fs_Pf b n m) 256)) (nI n, fs_A b, c)) : ∀ d i, 1 ≤ i → i + d = 256 → wY_frequent_18 post (nI m) (nI n) (fs_A b) c (d + 1) (nI (fs_num (fs_Pf b n m) i)) (nI i) := by
  intro d
  induction d with
  | zero =>
    intro i _ hi
    have e : i = 256 := by omega
    subst e
    exact br_t (nI_le (a := 256) (b := 256) (by omega) (by omega)) hp
  | succ d ih =>
    intro i h1 hi
    have hi' := ih (i + 1) (by omega) (by omega)
    have hl := fs_cn_le b i n
    refine br_f (nI_ge (b := 256) (by omega) (by omega)) ⟨vp_in_nI (by omega) (by omega), pk_lt (fs_cn b i n) m (fun h => ?_) (fun h => ?_) (fs_ct hc (by omega))⟩
    · rw [fs_num_f (P := fs_Pf b n m) (i := i) (by unfold fs_Pf; simp; omega)] at hi'
      exact nm_r (nI_1 i) hi'
    · rw [fs_num_t (P := fs_Pf b n m) h1 (decide_eq_true h)] at hi'
      exact nm_r (nI_1 _) (nm_r (nI_1 i) hi')
/-! noGreater: over all greater sets -/
theorem fs_ngY {post : Int32 → Prop} {b : Nat → Nat} {c : Nat → Int32} {n s e : Nat} (hn : n ≤ 20) (he : e ≤ 20) (hs : s < 256) (hc : ∀ s, s < 256 → c s = nI (fs_cn b s n)) : ∀ d i, i + d = 256 → ((∀ x, i ≤ x → x < 256 → x ≠ s → s &&& x = s → fs_cn b x n < e) → post 1) → (¬ (∀ x, i ≤ x → x < 256 → x ≠ s → s &&& x = s → fs_cn b x n < e) → post 0) → wY_noGreater_2 post (nI s) (nI e) (nI n) (fs_A b) c (d + 1) (nI i) := by
  intro d
  induction d with
  | zero =>
    intro i hi h1 _
    have e : i = 256 := by omega
    subst e
    exact br_t (nI_le (a := 256) (b := 256) (by omega) (by omega)) (h1 (fun x hx hx2 => absurd hx (by omega)))
  | succ d ih =>
    intro i hi h1 h0
    have hl := fs_cn_le b i n
    have step : (i ≠ s → s &&& i = s → fs_cn b i n < e) → wY_noGreater_2 post (nI s) (nI e) (nI n) (fs_A b) c (d + 1) (nI (i + 1)) := by
      intro hq
      refine ih (i + 1) (by omega) (fun h => h1 (fun x hx hx2 hne hin => ?_)) (fun h => h0 (fun z => h (fun x hx hx2 hne hin => z x (by omega) hx2 hne hin)))
      rcases Nat.lt_or_ge i x with h3 | h3
      · exact h x h3 hx2 hne hin
      · have e : x = i := by omega
        subst e
        exact hq hne hin
    refine br_f (nI_ge (b := 256) (by omega) (by omega)) (pk_eq i s (fun h => ?_) (fun h => ?_))
    · exact nm_r (nI_1 i) (step (fun z => absurd h z))
    · by_cases hin : s &&& i = s
      · refine br_t ((fs_no hs).mpr hin) ⟨vp_in_nI (by omega) (by omega), pk_lt (fs_cn b i n) e (fun h2 => ?_) (fun h2 => ?_) (fs_ct hc (by omega))⟩
        · exact nm_r (nI_1 i) (step (fun _ _ => h2))
        · exact h0 (fun z => absurd (z i (Nat.le_refl _) (by omega) h hin) (by omega))
      · exact br_f (fun z => hin ((fs_no hs).mp z)) (nm_r (nI_1 i) (step (fun _ z => absurd z hin)))
theorem fs_noGrY {post : Int32 → Prop} {b : Nat → Nat} {c : Nat → Int32} {n s e : Nat} (hn : n ≤ 20) (h0e : 0 < e) (he : e ≤ 20) (hs : s < 256) (hc : ∀ s, s < 256 → c s = nI (fs_cn b s n)) (h1 : fs_top b n s 8 < e → post 1) (h0 : ¬ fs_top b n s 8 < e → post 0) : wpY_noGreater post (nI n, fs_A b, c) (nI s) (nI e) := by
  rw [fs_top_all hs h0e] at h1 h0
  exact ⟨256, fs_ngY hn he hs hc 255 1 (by omega) h1 h0⟩
/-! closed -/
theorem fs_isClY {post : Int32 → Prop} {b : Nat → Nat} {c : Nat → Int32} {n m s : Nat} (hn : n ≤ 20) (hm0 : 1 ≤ m) (hm : m ≤ 20) (hs : s < 256) (hc : ∀ s, s < 256 → c s = nI (fs_cn b s n)) (h1 : fs_Pc b n m s = true → post 1) (h0 : ¬ fs_Pc b n m s = true → post 0) : wpY_isClosed post (nI n, fs_A b, c) (nI s) (nI m) := by
  have hl := fs_cn_le b s n
  have hin : vp_in (nI s) 256 := vp_in_nI (by omega) (by omega)
  unfold wpY_isClosed
  dsimp only
  rw [fs_ct hc hs]
  refine ⟨hin, pk_lt (fs_cn b s n) m (fun h => ?_) (fun h => ⟨hin, fs_noGrY hn (by omega) (by omega) hs hc (fun h2 => ?_) (fun h2 => ?_)⟩)⟩
  · exact h0 (by unfold fs_Pc; rw [decide_eq_true_iff]; omega)
  · exact br_f (by decide) (h1 (by unfold fs_Pc; rw [decide_eq_true_iff]; omega))
  · exact br_t rfl (h0 (by unfold fs_Pc; rw [decide_eq_true_iff]; omega))
theorem fs_clY {post : Int32 → SY → Prop} {b : Nat → Nat} {c : Nat → Int32} {n m : Nat} (hn : n ≤ 20) (hm0 : 1 ≤ m) (hm : m ≤ 20) (hc : ∀ s, s < 256 → c s = nI (fs_cn b s n)) (hp : post (nI (fs_num (fs_Pc b n m) 256)) (nI n, fs_A b, c)) : ∀ d i, 1 ≤ i → i + d = 256 → wY_closed_18 post (nI m) (nI n) (fs_A b) c (d + 1) (nI (fs_num (fs_Pc b n m) i)) (nI i) := by
  intro d
  induction d with
  | zero =>
    intro i _ hi
    have e : i = 256 := by omega
    subst e
    exact br_t (nI_le (a := 256) (b := 256) (by omega) (by omega)) hp
  | succ d ih =>
    intro i h1 hi
    have hi' := ih (i + 1) (by omega) (by omega)
    refine br_f (nI_ge (b := 256) (by omega) (by omega)) (fs_isClY hn hm0 hm (by omega) hc (fun h => ?_) (fun h => ?_))
    · rw [fs_num_t h1 h] at hi'
      exact br_f (by decide) (nm_r (nI_1 _) (nm_r (nI_1 i) hi'))
    · rw [fs_num_f h] at hi'
      exact br_t rfl (nm_r (nI_1 i) hi')
/-! largest -/
theorem fs_laY {post : Int32 → SY → Prop} {b : Nat → Nat} {c : Nat → Int32} {n m : Nat} (hn : n ≤ 20) (hm0 : 1 ≤ m) (hm : m ≤ 20) (hc : ∀ s, s < 256 → c s = nI (fs_cn b s n)) (hp : post (nI (fs_num (fs_Pl b n m) 256)) (nI n, fs_A b, c)) : ∀ d i, 1 ≤ i → i + d = 256 → wY_largest_18 post (nI m) (nI n) (fs_A b) c (d + 1) (nI (fs_num (fs_Pl b n m) i)) (nI i) := by
  intro d
  induction d with
  | zero =>
    intro i _ hi
    have e : i = 256 := by omega
    subst e
    exact br_t (nI_le (a := 256) (b := 256) (by omega) (by omega)) hp
  | succ d ih =>
    intro i h1 hi
    have hi' := ih (i + 1) (by omega) (by omega)
    have hl := fs_cn_le b i n
    refine br_f (nI_ge (b := 256) (by omega) (by omega)) ⟨vp_in_nI (by omega) (by omega), pk_lt (fs_cn b i n) m (fun h => ?_) (fun h => fs_noGrY hn (by omega) (by omega) (by omega) hc (fun h2 => ?_) (fun h2 => ?_)) (fs_ct hc (by omega))⟩
    · rw [fs_num_f (P := fs_Pl b n m) (i := i) (by unfold fs_Pl; rw [decide_eq_true_iff]; omega)] at hi'
      exact nm_r (nI_1 i) hi'
    · rw [fs_num_t (P := fs_Pl b n m) h1 (by unfold fs_Pl; rw [decide_eq_true_iff]; omega)] at hi'
      exact br_f (by decide) (nm_r (nI_1 _) (nm_r (nI_1 i) hi'))
    · rw [fs_num_f (P := fs_Pl b n m) (i := i) (by unfold fs_Pl; rw [decide_eq_true_iff]; omega)] at hi'
      exact br_t rfl (nm_r (nI_1 i) hi')
/-! closedSet -/
theorem fs_csY {post : Int32 → SY → Prop} {b : Nat → Nat} {c : Nat → Int32} {n m : Nat} (k : Int32) (hn : n ≤ 20) (hm0 : 1 ≤ m) (hm : m ≤ 20) (hc : ∀ s, s < 256 → c s = nI (fs_cn b s n)) : ∀ d i e, i + d = 256 → post (fs_cs (fs_Pc b n m) k d i e) (nI n, fs_A b, c) → wY_closedSet_19 post (nI m) k (nI n) (fs_A b) c (d + 1) (nI e) (nI i) := by
  intro d
  induction d with
  | zero =>
    intro i e hi hp
    have e : i = 256 := by omega
    subst e
    exact br_t (nI_le (a := 256) (b := 256) (by omega) (by omega)) hp
  | succ d ih =>
    intro i e hi hp
    refine br_f (nI_ge (b := 256) (by omega) (by omega)) (fs_isClY hn hm0 hm (by omega) hc (fun h => ?_) (fun h => ?_))
    · rw [fs_cs, if_pos h] at hp
      refine br_f (by decide) (br_c (fun hk => ?_) (fun hk => ?_))
      · rw [if_pos hk] at hp
        exact hp
      · rw [if_neg hk] at hp
        exact nm_r (nI_1 _) (nm_r (nI_1 i) (ih (i + 1) (e + 1) (by omega) hp))
    · rw [fs_cs, if_neg h] at hp
      exact br_t rfl (nm_r (nI_1 i) (ih (i + 1) e (by omega) hp))
/-! closure: the flag tells whether a basket was met -/
def fs_fl (q : Nat) : Int32 := if q = 0 then 0 else 1
theorem fs_cmY {post : Int32 → Prop} {b : Nat → Nat} {c : Nat → Int32} {s n : Nat} (hs : s < 256) (hn : n ≤ 20) (h0 : fs_cn b s n = 0 → post (-3)) (h1 : fs_cn b s n ≠ 0 → post (fs_cm b s n)) : ∀ d i, i + d = n → wY_closure_19 post (nI s) (nI n) (fs_A b) c (d + 1) (fs_cm b s i) (fs_fl (fs_cn b s i)) (nI i) := by
  intro d
  induction d with
  | zero =>
    intro i hi
    have e : i = n := by omega
    subst e
    refine br_t (nI_le (Nat.le_refl _) (by omega)) ?_
    by_cases h : fs_cn b s i = 0
    · exact br_t (by unfold fs_fl; rw [if_pos h]) (h0 h)
    · exact br_f (by unfold fs_fl; rw [if_neg h]; decide) (h1 h)
  | succ d ih =>
    intro i hi
    have hi' := ih (i + 1) (by omega)
    have hin : vp_in (nI i) 20 := vp_in_nI (by omega) (by omega)
    refine br_f (nI_ge (by omega) (by omega)) ⟨hin, ?_⟩
    rw [fs_at b (by omega)]
    by_cases h : s &&& b i = s
    · rw [fs_cm, if_pos h, fs_cn_t h] at hi'
      have e : fs_fl (fs_cn b s i + 1) = 1 := if_neg (by omega)
      rw [e] at hi'
      exact br_t ((fs_no hs).mpr h) ⟨hin, nm_e (nm_r (nI_1 i) hi')⟩
    · rw [fs_cm, if_neg h, fs_cn_f h] at hi'
      exact br_f (fun z => h ((fs_no hs).mp z)) (nm_r (nI_1 i) hi')
/-! widest -/
theorem fs_thY {post : Int32 → Prop} {x f : Int32} {a c : Nat → Int32} (hp : post (fs_th x 8)) : ∀ d t, t + d = 8 → wY_sizeOf_4 post x f a c (d + 1) (fs_th x t) (nI t) := by
  intro d
  induction d with
  | zero =>
    intro t ht
    have e : t = 8 := by omega
    subst e
    exact br_t (nI_le (a := 8) (b := 8) (by omega) (by omega)) hp
  | succ d ih =>
    intro t ht
    exact br_f (nI_ge (b := 8) (by omega) (by omega)) (nm_e (nm_r (nI_1 t) (ih (t + 1) (by omega))))
theorem fs_sizeY {post : Int32 → Prop} {x f : Int32} {a c : Nat → Int32} (hp : post (fs_th x 8)) : wpY_sizeOf post (f, a, c) x := ⟨9, fs_thY hp 8 0 (by omega)⟩
theorem fs_wdY {post : Int32 → SY → Prop} {b : Nat → Nat} {c : Nat → Int32} {n m : Nat} (hn : n ≤ 20) (hm : m ≤ 20) (hc : ∀ s, s < 256 → c s = nI (fs_cn b s n)) (hp : post (fs_wd b n m 256) (nI n, fs_A b, c)) : ∀ d i, 1 ≤ i → i + d = 256 → wY_widest_18 post (nI m) (nI n) (fs_A b) c (d + 1) (fs_wd b n m i) (nI i) := by
  intro d
  induction d with
  | zero =>
    intro i _ hi
    have e : i = 256 := by omega
    subst e
    exact br_t (nI_le (a := 256) (b := 256) (by omega) (by omega)) hp
  | succ d ih =>
    intro i h1 hi
    have hi' := ih (i + 1) (by omega) (by omega)
    have hl := fs_cn_le b i n
    refine br_f (nI_ge (b := 256) (by omega) (by omega)) ⟨vp_in_nI (by omega) (by omega), pk_lt (fs_cn b i n) m (fun h2 => ?_) (fun h2 => fs_sizeY (br_c (fun h => ?_) (fun h => fs_sizeY ?_))) (fs_ct hc (by omega))⟩
    · rw [fs_wd_f h1 (fun z => absurd z.1 (by omega))] at hi'
      exact nm_r (nI_1 i) hi'
    · rw [fs_wd_f h1 (fun z => z.2 h)] at hi'
      exact nm_r (nI_1 i) hi'
    · rw [fs_wd_t h1 h2 h] at hi'
      exact nm_r (nI_1 i) hi'
/-! rules -/
theorem fs_r1Y {post : Int32 → SY → Prop} {J : Int32 → Int32 → Prop} {b : Nat → Nat} {c : Nat → Int32} {n m p f : Nat} (q : Nat) (hn : n ≤ 20) (hm : m ≤ 20) (hq : p ≤ 100) (hf : f < 256) (hc : ∀ s, s < 256 → c s = nI (fs_cn b s n)) (hJ : J (nI (q + fs_sum (fs_H b n m p f) 256)) (nI (f + 1))) : ∀ d i, 1 ≤ i → i + d = 256 → wY_rules_40 post J (nI m) (nI p) (nI f) (nI n) (fs_A b) c (d + 1) (nI (q + fs_sum (fs_H b n m p f) i)) (nI i) := by
  intro d
  induction d with
  | zero =>
    intro i _ hi
    have e : i = 256 := by omega
    subst e
    exact br_t (nI_le (a := 256) (b := 256) (by omega) (by omega)) (nm_r (nI_1 f) hJ)
  | succ d ih =>
    intro i h1 hi
    have hi' := ih (i + 1) (by omega) (by omega)
    rw [fs_sum_1, ← Nat.add_assoc] at hi'
    have hlt := fs_orlt (s := f) (x := i) hf (by omega)
    have hl := fs_cn_le b (f ||| i) n
    have hd := fs_cn_le b f n
    have hpc : p * fs_cn b f n ≤ 100 * 20 := Nat.mul_le_mul hq (by omega)
    refine br_f (nI_ge (b := 256) (by omega) (by omega)) ?_
    rw [fs_or]
    refine ⟨vp_in_nI hlt (by omega), nm_r (fs_ct hc hlt) ?_⟩
    by_cases h0 : f &&& i = 0
    · refine br_t ((fs_dis hf).mpr h0) (pk_lt (fs_cn b (f ||| i) n) m (fun h => ?_) (fun h => ⟨vp_in_nI hf (by omega), pk_lt (100 * fs_cn b (f ||| i) n) (p * fs_cn b f n) (fun h2 => ?_) (fun h2 => ?_) (pk_mul 100 _) ?_⟩))
      · have e : fs_H b n m p f i = 0 := by
          unfold fs_H
          rw [if_neg (by omega), if_neg (by simp; omega)]
        rw [e] at hi'
        exact nm_r (nI_1 i) hi'
      · have e : fs_H b n m p f i = 0 := by
          unfold fs_H
          rw [if_neg (by omega), if_neg (by simp; omega)]
        rw [e] at hi'
        exact nm_r (nI_1 i) hi'
      · have e : fs_H b n m p f i = 1 := by
          unfold fs_H
          rw [if_neg (by omega), if_pos (by simp [h0, h, h2])]
        rw [e] at hi'
        exact nm_r (nI_1 _) (nm_r (nI_1 i) hi')
      · rw [fs_ct hc hf]
        exact pk_mul _ _
    · have e : fs_H b n m p f i = 0 := by
        unfold fs_H
        rw [if_neg (by omega), if_neg (fun z => h0 z.1)]
      rw [e] at hi'
      exact br_f (fun z => h0 ((fs_dis hf).mp z)) (nm_r (nI_1 i) hi')
theorem fs_H_1 (b : Nat → Nat) (n m p f : Nat) : fs_sum (fs_H b n m p f) 1 = 0 := rfl
theorem fs_r2Y {post : Int32 → SY → Prop} {b : Nat → Nat} {c : Nat → Int32} {n m p : Nat} (hn : n ≤ 20) (hm : m ≤ 20) (hq : p ≤ 100) (hc : ∀ s, s < 256 → c s = nI (fs_cn b s n)) (hp : post (nI (fs_sum (fs_Gy b n m p) 256)) (nI n, fs_A b, c)) : ∀ d i, 1 ≤ i → i + d = 256 → wY_rules_29 post (nI m) (nI p) (nI n) (fs_A b) c (d + 1) (nI (fs_sum (fs_Gy b n m p) i)) (nI i) := by
  intro d
  induction d with
  | zero =>
    intro i _ hi
    have e : i = 256 := by omega
    subst e
    exact br_t (nI_le (a := 256) (b := 256) (by omega) (by omega)) hp
  | succ d ih =>
    intro i h1 hi
    have hi' := ih (i + 1) (by omega) (by omega)
    have e : fs_Gy b n m p i = fs_sum (fs_H b n m p i) 256 := if_neg (by omega)
    rw [fs_sum_1, e] at hi'
    have h := fs_r1Y (post := post) (fs_sum (fs_Gy b n m p) i) hn hm hq (by omega) hc hi' 255 1 (by omega) (by omega)
    rw [fs_H_1, Nat.add_zero] at h
    exact br_f (nI_ge (b := 256) (by omega) (by omega)) ⟨256, h⟩
/-! companion -/
theorem fs_coY {post : Int32 → SY → Prop} {b : Nat → Nat} {c : Nat → Int32} {n s : Nat} (hn : n ≤ 20) (hs : s < 256) (hc : ∀ s, s < 256 → c s = nI (fs_cn b s n)) (hp : post (fs_yb (fs_bst b n s 8)) (nI n, fs_A b, c)) : ∀ d t, t + d = 8 → wY_companion_41 post (nI s) (nI n) (fs_A b) c (d + 1) (fs_yb (fs_bst b n s t)) (nI t) := by
  intro d
  induction d with
  | zero =>
    intro t ht
    have e : t = 8 := by omega
    subst e
    exact br_t (nI_le (a := 8) (b := 8) (by omega) (by omega)) hp
  | succ d ih =>
    intro t ht
    have hi' := ih (t + 1) (by omega)
    have ht8 : t < 8 := by omega
    have hlt := fs_putlt hs ht8
    have hl := fs_cn_le b (s ||| 2 ^ t) n
    rw [fs_bst] at hi'
    refine br_f (nI_ge (b := 8) ht8 (by omega)) ?_
    by_cases h : s ||| 2 ^ t = s
    · rw [if_pos h] at hi'
      exact br_f (fun z => ((fs_out hs ht8).mp z) h) (br_t rfl (nm_r (nI_1 t) hi'))
    · rw [if_neg h] at hi'
      refine br_t ((fs_out hs ht8).mpr h) (br_f (by decide) ?_)
      cases ho : fs_bst b n s t with
      | none =>
        rw [ho] at hi'
        exact br_t (by decide) (nm_r (nI_1 t) hi')
      | some j =>
        rw [ho] at hi'
        dsimp only at hi'
        have hj : j < 8 := by
          have := fs_bst_in _ _ ho
          omega
        have hjl := fs_putlt hs hj
        have hj2 := fs_cn_le b (s ||| 2 ^ j) n
        have e1 : fs_yb (some j) = nI j := rfl
        rw [e1, fs_and7 j hj, fs_put s ht8, fs_put s hj]
        refine br_f (nI_pos (by omega)) ⟨vp_in_nI hlt (by omega), vp_in_nI hjl (by omega), pk_le (fs_cn b (s ||| 2 ^ t) n) (fs_cn b (s ||| 2 ^ j) n) (fun h2 => ?_) (fun h2 => ?_) (fs_ct hc hlt) (fs_ct hc hjl)⟩
        · rw [if_pos h2] at hi'
          exact nm_r (nI_1 t) hi'
        · rw [if_neg (by omega)] at hi'
          exact nm_r (nI_1 t) hi'
end
section
/-! 06: the relation, and what is owed -/
theorem fs_set (x : Int32) : ((∀ post : Int32 → Prop, post 0 → wpX_isSet post x) ∧ (∀ (post : Int32 → Prop) (f : Int32) (a c : Nat → Int32), post 0 → wpY_isSet post (f, a, c) x)) ∨ (∃ s, s < 256 ∧ x = nI s ∧ (∀ post : Int32 → Prop, post 1 → wpX_isSet post x) ∧ (∀ (post : Int32 → Prop) (f : Int32) (a c : Nat → Int32), post 1 → wpY_isSet post (f, a, c) x)) := by
  by_cases h : x < 0
  · exact Or.inl ⟨fun _ hp => br_t h hp, fun _ _ _ _ hp => br_t h hp⟩
  · by_cases h2 : 255 < x
    · exact Or.inl ⟨fun _ hp => br_f h (br_t h2 hp), fun _ _ _ _ hp => br_f h (br_t h2 hp)⟩
    · obtain ⟨s, hs, e⟩ := nI_of2 (x := x) (M := 255) (n := 255) (by decide) h (Int32.not_lt.mp h2)
      exact Or.inr ⟨s, by omega, e, fun _ hp => br_f h (br_f h2 hp), fun _ _ _ _ hp => br_f h (br_f h2 hp)⟩
theorem fs_lim (x : Int32) : ((∀ post : Int32 → Prop, post 0 → wpX_isLimit post x) ∧ (∀ (post : Int32 → Prop) (f : Int32) (a c : Nat → Int32), post 0 → wpY_isLevel post (f, a, c) x)) ∨ (∃ m, 1 ≤ m ∧ m ≤ 20 ∧ x = nI m ∧ (∀ post : Int32 → Prop, post 1 → wpX_isLimit post x) ∧ (∀ (post : Int32 → Prop) (f : Int32) (a c : Nat → Int32), post 1 → wpY_isLevel post (f, a, c) x)) := by
  by_cases h : x < 1
  · exact Or.inl ⟨fun _ hp => br_t h hp, fun _ _ _ _ hp => br_t h hp⟩
  · by_cases h2 : 20 < x
    · exact Or.inl ⟨fun _ hp => br_f h (br_t h2 hp), fun _ _ _ _ hp => br_f h (br_t h2 hp)⟩
    · have h0 : ¬ x < 0 := fun z => h (Int32.lt_trans z (by decide))
      obtain ⟨m, hm, e⟩ := nI_of2 (x := x) (M := 20) (n := 20) (by decide) h0 (Int32.not_lt.mp h2)
      refine Or.inr ⟨m, ?_, hm, e, fun _ hp => br_f h (br_f h2 hp), fun _ _ _ _ hp => br_f h (br_f h2 hp)⟩
      rcases Nat.eq_zero_or_pos m with hz | hz
      · subst hz
        subst e
        exact absurd (by decide +kernel : nI 0 < 1) h
      · exact hz
/-- the two hold the same baskets; the reference's counts may be anything (they are made anew before use) -/
def i_Rel (_ : Nat) (u : SX) (v : SY) : Prop := ∃ (n : Nat) (b : Nat → Nat) (c : Nat → Int32), n ≤ 20 ∧ u = (nI n, fs_A b) ∧ v = (nI n, fs_A b, c)
theorem fs_rel {k n : Nat} {b : Nat → Nat} {c : Nat → Int32} (hn : n ≤ 20) : i_Rel k (nI n, fs_A b) (nI n, fs_A b, c) := ⟨n, b, c, hn, rfl, rfl⟩
theorem i_up {k : Nat} {u : SX} {v : SY} (h : i_Rel k u v) : i_Rel (k + 3) u v := h
theorem i_vc0 : wpX_init (fun u => wpY_init (fun v => i_Rel 0 u v)) := by
  have e : (fun _ => 0 : Nat → Int32) = fs_A (fun _ => 0) := funext fun _ => nI_0.symm
  exact ⟨0, fun _ => 0, fun _ => 0, by omega, by rw [← e, nI_0], by rw [← e, nI_0]⟩
/-! add -/
theorem fs_put1 (b : Nat → Nat) (k s : Nat) : upd (fs_A b) k (nI s) = fs_A (fun j => if j = k then s else b j) := by
  funext j
  by_cases h : j = k
  · subst h
    rw [pk_us]
    exact congrArg nI (if_pos rfl).symm
  · rw [pk_un h]
    exact congrArg nI (if_neg h).symm
theorem i_vc_add {k : Nat} {u : SX} {v : SY} (I : i_Rel k u v) (hk : k + 3 ≤ 1536) (v1 : Int32) : wpX_add (fun r u' => wpY_add (fun r' v' => r' = r ∧ i_Rel (k + 3) u' v') v v1) u v1 := by
  obtain ⟨n, b, c, hn, rfl, rfl⟩ := I
  unfold wpX_add wpY_add
  dsimp only
  refine pk_lt n 20 (fun h => ?_) (fun h => ?_)
  · have h20 : ¬ nI n = 20 := fun z => absurd ((nI_eq (a := n) (b := 20) (by omega) (by omega)).mp z) (by omega)
    have hin : vp_in (nI n) 20 := vp_in_nI h (by omega)
    rcases fs_set v1 with ⟨hX, hY⟩ | ⟨s, hs, rfl, hX, hY⟩
    · exact hX _ (br_t rfl (br_f h20 (hY _ _ _ _ (br_t rfl ⟨rfl, fs_rel hn⟩))))
    · have e : upd (fs_A b) (nI n).toNatClampNeg (nI s) = fs_A (fun j => if j = n then s else b j) := by
        rw [nI_clamp (by omega), fs_put1]
      refine hX _ (br_f (by decide) ⟨hin, nm_r e (nm_r (nI_1 n) (br_f h20 (hY _ _ _ _ (br_f (by decide) ⟨hin, nm_r e (nm_r (nI_1 n) ⟨rfl, ?_⟩)⟩))))⟩)
      exact fs_rel (by omega)
  · have e : n = 20 := by omega
    subst e
    exact br_t rfl ⟨rfl, fs_rel hn⟩
/-! drop -/
def fs_dr (b : Nat → Nat) (i : Nat) : Nat → Nat := fun j => if j < i then b (j + 1) else b j
theorem fs_dr_s (b : Nat → Nat) (i : Nat) : upd (fs_A (fs_dr b i)) i (fs_A (fs_dr b i) (i + 1)) = fs_A (fs_dr b (i + 1)) := by
  funext j
  by_cases h : j = i
  · subst h
    rw [pk_us]
    unfold fs_A fs_dr
    rw [if_neg (by omega), if_pos (by omega)]
  · rw [pk_un h]
    unfold fs_A fs_dr
    by_cases h1 : j < i
    · rw [if_pos h1, if_pos (by omega)]
    · rw [if_neg h1, if_neg (by omega)]
theorem fs_dr_0 (b : Nat → Nat) : fs_dr b 0 = b := by
  funext j
  exact if_neg (by omega)
theorem fs_dr_u (b : Nat → Nat) {i : Nat} (hi : i < 20) : upd (fs_A (fs_dr b i)) (nI i).toNatClampNeg (fs_A (fs_dr b i) (nI i + 1).toNatClampNeg) = fs_A (fs_dr b (i + 1)) := by
  rw [nI_1, nI_clamp (by omega), nI_clamp (by omega), fs_dr_s]
theorem fs_drX {post : Int32 → SX → Prop} {b : Nat → Nat} {n : Nat} (hn : n < 20) (hp : post (nI n) (nI n, fs_A (fs_dr b n))) : ∀ d i, i + d = n → wX_drop_22 post (nI n) (d + 1) (nI i) (fs_A (fs_dr b i)) := by
  intro d
  induction d with
  | zero =>
    intro i hi
    have e : i = n := by omega
    subst e
    exact br_t (nI_le (Nat.le_refl _) (by omega)) hp
  | succ d ih =>
    intro i hi
    refine br_f (nI_ge (by omega) (by omega)) ⟨?_, vp_in_nI (by omega) (by omega), nm_r (fs_dr_u b (by omega)) (nm_r (nI_1 i) (ih (i + 1) (by omega)))⟩
    rw [nI_1]
    exact vp_in_nI (by omega) (by omega)
theorem fs_drY {post : Int32 → SY → Prop} {b : Nat → Nat} {c : Nat → Int32} {n : Nat} (hn : n < 20) (hp : post (nI n) (nI n, fs_A (fs_dr b n), c)) : ∀ d i, i + d = n → wY_drop_12 post (nI (n + 1)) (d + 1) (nI i) (fs_A (fs_dr b i)) c := by
  intro d
  induction d with
  | zero =>
    intro i hi
    have e : i = n := by omega
    subst e
    refine br_t ?_ (nm_r (nI_pred i) hp)
    rw [nI_pred]
    exact nI_le (Nat.le_refl _) (by omega)
  | succ d ih =>
    intro i hi
    refine br_f ?_ ⟨?_, vp_in_nI (by omega) (by omega), nm_r (fs_dr_u b (by omega)) (nm_r (nI_1 i) (ih (i + 1) (by omega)))⟩
    · rw [nI_pred]
      exact nI_ge (by omega) (by omega)
    · rw [nI_1]
      exact vp_in_nI (by omega) (by omega)
theorem i_vc_drop {k : Nat} {u : SX} {v : SY} (I : i_Rel k u v) (hk : k + 3 ≤ 1536) : wpX_drop (fun r u' => wpY_drop (fun r' v' => r' = r ∧ i_Rel (k + 3) u' v') v) u := by
  obtain ⟨n, b, c, hn, rfl, rfl⟩ := I
  unfold wpX_drop wpY_drop
  dsimp only
  rcases Nat.eq_zero_or_pos n with h | h
  · subst h
    exact br_t nI_0 (br_t nI_0 ⟨rfl, fs_rel hn⟩)
  · obtain ⟨q, rfl⟩ : ∃ q, n = q + 1 := ⟨n - 1, by omega⟩
    have h0 : ¬ nI (q + 1) = 0 := nI_ne0 h (by omega)
    refine br_f h0 (nm_r (nI_pred q) ⟨q + 1, ?_⟩)
    have e := fs_dr_0 b
    rw [← e]
    refine fs_drX (by omega) (br_f h0 ⟨q + 1, ?_⟩) q 0 (by omega)
    exact fs_drY (by omega) ⟨rfl, fs_rel (by omega)⟩ q 0 (by omega)
/-! the others -/
theorem i_vc_count {k : Nat} {u : SX} {v : SY} (I : i_Rel k u v) (hk : k + 3 ≤ 1536) (v1 : Int32) : wpX_count (fun r => wpY_count (fun r' v' => r' = r ∧ i_Rel (k + 3) u v') v v1) u v1 := by
  obtain ⟨n, b, c, hn, rfl, rfl⟩ := I
  unfold wpX_count wpY_count
  dsimp only
  rcases fs_set v1 with ⟨hX, hY⟩ | ⟨s, hs, rfl, hX, hY⟩
  · exact hX _ (br_t rfl (hY _ _ _ _ (br_t rfl ⟨rfl, fs_rel hn⟩)))
  · refine hX _ (br_f (by decide) (fs_countX hs hn (hY _ _ _ _ (br_f (by decide) (fs_allY hn (fun c' hc => ?_))))))
    exact ⟨vp_in_nI hs (by omega), fs_ct hc hs, fs_rel hn⟩
theorem i_vc_frequent {k : Nat} {u : SX} {v : SY} (I : i_Rel k u v) (hk : k + 3 ≤ 1536) (v1 : Int32) : wpX_frequent (fun r => wpY_frequent (fun r' v' => r' = r ∧ i_Rel (k + 3) u v') v v1) u v1 := by
  obtain ⟨n, b, c, hn, rfl, rfl⟩ := I
  unfold wpX_frequent wpY_frequent
  dsimp only
  rcases fs_lim v1 with ⟨hX, hY⟩ | ⟨m, hm0, hm, rfl, hX, hY⟩
  · exact hX _ (br_t rfl (hY _ _ _ _ (br_t rfl ⟨rfl, fs_rel hn⟩)))
  · refine hX _ (br_f (by decide) ⟨256, fs_frX (b := b) hn hm ?_ 255 1 (by omega) (by omega)⟩)
    refine hY _ _ _ _ (br_f (by decide) (fs_allY hn (fun c' hc => ?_)))
    exact ⟨256, fs_frY hn hm hc ⟨rfl, fs_rel hn⟩ 255 1 (by omega) (by omega)⟩
theorem i_vc_closed {k : Nat} {u : SX} {v : SY} (I : i_Rel k u v) (hk : k + 3 ≤ 1536) (v1 : Int32) : wpX_closed (fun r => wpY_closed (fun r' v' => r' = r ∧ i_Rel (k + 3) u v') v v1) u v1 := by
  obtain ⟨n, b, c, hn, rfl, rfl⟩ := I
  unfold wpX_closed wpY_closed
  dsimp only
  rcases fs_lim v1 with ⟨hX, hY⟩ | ⟨m, hm0, hm, rfl, hX, hY⟩
  · exact hX _ (br_t rfl (hY _ _ _ _ (br_t rfl ⟨rfl, fs_rel hn⟩)))
  · refine hX _ (br_f (by decide) ⟨256, fs_clX (b := b) hn hm ?_ 255 1 (by omega) (by omega)⟩)
    refine hY _ _ _ _ (br_f (by decide) (fs_allY hn (fun c' hc => ?_)))
    exact ⟨256, fs_clY hn hm0 hm hc ⟨rfl, fs_rel hn⟩ 255 1 (by omega) (by omega)⟩
theorem i_vc_largest {k : Nat} {u : SX} {v : SY} (I : i_Rel k u v) (hk : k + 3 ≤ 1536) (v1 : Int32) : wpX_largest (fun r => wpY_largest (fun r' v' => r' = r ∧ i_Rel (k + 3) u v') v v1) u v1 := by
  obtain ⟨n, b, c, hn, rfl, rfl⟩ := I
  unfold wpX_largest wpY_largest
  dsimp only
  rcases fs_lim v1 with ⟨hX, hY⟩ | ⟨m, hm0, hm, rfl, hX, hY⟩
  · exact hX _ (br_t rfl (hY _ _ _ _ (br_t rfl ⟨rfl, fs_rel hn⟩)))
  · refine hX _ (br_f (by decide) ⟨256, fs_laX (b := b) hn hm ?_ 255 1 (by omega) (by omega)⟩)
    refine hY _ _ _ _ (br_f (by decide) (fs_allY hn (fun c' hc => ?_)))
    exact ⟨256, fs_laY hn hm0 hm hc ⟨rfl, fs_rel hn⟩ 255 1 (by omega) (by omega)⟩
theorem i_vc_closedSet {k : Nat} {u : SX} {v : SY} (I : i_Rel k u v) (hk : k + 3 ≤ 1536) (v1 : Int32) (v2 : Int32) : wpX_closedSet (fun r => wpY_closedSet (fun r' v' => r' = r ∧ i_Rel (k + 3) u v') v v1 v2) u v1 v2 := by
  obtain ⟨n, b, c, hn, rfl, rfl⟩ := I
  unfold wpX_closedSet wpY_closedSet
  dsimp only
  rcases fs_lim v1 with ⟨hX, hY⟩ | ⟨m, hm0, hm, rfl, hX, hY⟩
  · exact hX _ (br_t rfl (hY _ _ _ _ (br_t rfl ⟨rfl, fs_rel hn⟩)))
  · refine hX _ (br_f (by decide) ⟨256, fs_csX (b := b) v2 hn hm 255 1 0 (by omega) ?_⟩)
    refine hY _ _ _ _ (br_f (by decide) (fs_allY hn (fun c' hc => ?_)))
    exact ⟨256, fs_csY v2 hn hm0 hm hc 255 1 0 (by omega) ⟨rfl, fs_rel hn⟩⟩
theorem i_vc_closure {k : Nat} {u : SX} {v : SY} (I : i_Rel k u v) (hk : k + 3 ≤ 1536) (v1 : Int32) : wpX_closure (fun r => wpY_closure (fun r' => r' = r ∧ i_Rel (k + 3) u v) v v1) u v1 := by
  obtain ⟨n, b, c, hn, rfl, rfl⟩ := I
  unfold wpX_closure wpY_closure
  dsimp only
  rcases fs_set v1 with ⟨hX, hY⟩ | ⟨s, hs, rfl, hX, hY⟩
  · exact hX _ (br_t rfl (hY _ _ _ _ (br_t rfl ⟨rfl, fs_rel hn⟩)))
  · have hl := fs_cn_le b s n
    refine hX _ (br_f (by decide) (fs_countX hs hn (pk_eq (fs_cn b s n) 0 (fun h => ?_) (fun h => ⟨n + 1, fs_cmX hs hn ?_ n 0 (by omega)⟩))))
    · exact hY _ _ _ _ (br_f (by decide) ⟨n + 1, fs_cmY hs hn (fun _ => ⟨rfl, fs_rel hn⟩) (fun z => absurd h z) n 0 (by omega)⟩)
    · exact hY _ _ _ _ (br_f (by decide) ⟨n + 1, fs_cmY hs hn (fun z => absurd z h) (fun _ => ⟨rfl, fs_rel hn⟩) n 0 (by omega)⟩)
theorem i_vc_widest {k : Nat} {u : SX} {v : SY} (I : i_Rel k u v) (hk : k + 3 ≤ 1536) (v1 : Int32) : wpX_widest (fun r => wpY_widest (fun r' v' => r' = r ∧ i_Rel (k + 3) u v') v v1) u v1 := by
  obtain ⟨n, b, c, hn, rfl, rfl⟩ := I
  unfold wpX_widest wpY_widest
  dsimp only
  rcases fs_lim v1 with ⟨hX, hY⟩ | ⟨m, hm0, hm, rfl, hX, hY⟩
  · exact hX _ (br_t rfl (hY _ _ _ _ (br_t rfl ⟨rfl, fs_rel hn⟩)))
  · refine hX _ (br_f (by decide) ⟨256, fs_wdX (b := b) hn hm ?_ 255 1 (by omega) (by omega)⟩)
    refine hY _ _ _ _ (br_f (by decide) (fs_allY hn (fun c' hc => ?_)))
    exact ⟨256, fs_wdY hn hm hc ⟨rfl, fs_rel hn⟩ 255 1 (by omega) (by omega)⟩
theorem i_vc_rules {k : Nat} {u : SX} {v : SY} (I : i_Rel k u v) (hk : k + 3 ≤ 1536) (v1 : Int32) (v2 : Int32) : wpX_rules (fun r => wpY_rules (fun r' v' => r' = r ∧ i_Rel (k + 3) u v') v v1 v2) u v1 v2 := by
  obtain ⟨n, b, c, hn, rfl, rfl⟩ := I
  unfold wpX_rules wpY_rules
  dsimp only
  rcases fs_lim v1 with ⟨hX, hY⟩ | ⟨m, hm0, hm, rfl, hX, hY⟩
  · exact hX _ (br_t rfl (hY _ _ _ _ (br_t rfl ⟨rfl, fs_rel hn⟩)))
  · by_cases h : v2 < 0
    · exact hX _ (br_f (by decide) (br_t h (hY _ _ _ _ (br_f (by decide) (br_t h ⟨rfl, fs_rel hn⟩)))))
    · by_cases h2 : v2 ≤ 100
      · obtain ⟨p, hp, rfl⟩ := nI_of2 (x := v2) (M := 100) (n := 100) (by decide) h h2
        refine hX _ (br_f (by decide) (br_f h (br_t h2 ⟨256, fs_ruX (b := b) hn hm hp ?_ 255 1 (by omega) (by omega)⟩)))
        refine hY _ _ _ _ (br_f (by decide) (br_f h (br_t h2 (fs_allY hn (fun c' hc => ?_)))))
        exact ⟨256, fs_r2Y hn hm hp hc ⟨congrArg nI (fs_rules b n m p).symm, fs_rel hn⟩ 255 1 (by omega) (by omega)⟩
      · exact hX _ (br_f (by decide) (br_f h (br_f h2 (hY _ _ _ _ (br_f (by decide) (br_f h (br_f h2 ⟨rfl, fs_rel hn⟩)))))))
theorem fs_255 : ∀ t, t < 8 → 255 ||| 2 ^ t = 255 := by decide
theorem i_vc_companion {k : Nat} {u : SX} {v : SY} (I : i_Rel k u v) (hk : k + 3 ≤ 1536) (v1 : Int32) : wpX_companion (fun r => wpY_companion (fun r' v' => r' = r ∧ i_Rel (k + 3) u v') v v1) u v1 := by
  obtain ⟨n, b, c, hn, rfl, rfl⟩ := I
  unfold wpX_companion wpY_companion
  dsimp only
  by_cases h : v1 < 0
  · exact br_t h (br_t rfl (br_t (Int32.lt_trans h (by decide)) ⟨rfl, fs_rel hn⟩))
  · by_cases h2 : 255 < v1
    · have h3 : ¬ v1 < 1 := Int32.lt_asymm (Int32.lt_trans (by decide : (1 : Int32) < 255) h2)
      exact br_f h (br_t h2 (br_t rfl (br_f h3 (br_f (Int32.not_le.mpr h2) ⟨rfl, fs_rel hn⟩))))
    · obtain ⟨s, hs, rfl⟩ := nI_of2 (x := v1) (M := 255) (n := 255) (by decide) h (Int32.not_lt.mp h2)
      have hs' : s < 256 := by omega
      have hl := fs_cn_le b s n
      refine br_f h (br_f h2 (br_f (by decide) (pk_eq s 0 (fun h0 => ?_) (fun h0 => ?_))))
      · subst h0
        exact br_t (by decide +kernel) ⟨rfl, fs_rel hn⟩
      · have h1 : ¬ nI s < 1 := nI_nlt (b := 1) (by omega) (by omega)
        have h3 : nI s ≤ 255 := Int32.not_lt.mp h2
        have hin : vp_in (nI s) 256 := vp_in_nI hs' (by omega)
        refine fs_countX hs' hn (pk_eq (fs_cn b s n) 0 (fun hz => ?_) (fun hz => ⟨9, fs_coX hn hs' ?_ 8 0 (by omega)⟩))
        · refine br_f h1 (br_t h3 (fs_allY hn (fun c' hc => ⟨hin, br_t ?_ ⟨rfl, fs_rel hn⟩⟩)))
          exact (fs_ct hc hs').trans ((congrArg nI hz).trans nI_0)
        · refine br_f h1 (br_t h3 (fs_allY hn (fun c' hc => ⟨hin, br_f ?_ (pk_eq s 255 (fun h5 => ?_) (fun h5 => ?_))⟩)))
          · exact fun z => nI_ne0 (by omega) (by omega) ((fs_ct hc hs').symm.trans z)
          · subst h5
            rw [(fs_bst_none 8).mpr fs_255]
            exact ⟨rfl, fs_rel hn⟩
          · refine ⟨9, fs_coY hn hs' hc ⟨?_, fs_rel hn⟩ 8 0 (by omega)⟩
            cases ho : fs_bst b n s 8 with
            | some j => rfl
            | none =>
              have hall := (fs_bst_none 8).mp ho
              have hin255 : s &&& 255 = s := by
                have := Nat.and_two_pow_sub_one_eq_mod s 8
                exact this.trans (Nat.mod_eq_of_lt hs')
              obtain ⟨t, ht, hne, _⟩ := fs_more (s := s) (x := 255) (by omega) (fun z => h5 z.symm) hin255
              exact absurd (hall t ht) hne
end
