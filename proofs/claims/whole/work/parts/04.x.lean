/-! 04: the component's methods, each with a general post -/
def fs_Pf (b : Nat → Nat) (n m : Nat) : Nat → Bool := fun s => decide (m ≤ fs_cn b s n)
def fs_Pc (b : Nat → Nat) (n m : Nat) : Nat → Bool := fun s => decide (m ≤ fs_cn b s n ∧ fs_top b n s 8 < fs_cn b s n)
def fs_Pl (b : Nat → Nat) (n m : Nat) : Nat → Bool := fun s => decide (m ≤ fs_cn b s n ∧ fs_top b n s 8 < m)
/-! frequent -/
theorem fs_frX {post : Int32 → Prop} {b : Nat → Nat} {n m : Nat} (hn : n ≤ 20) (hm : m ≤ 20) (hp : post (nI (fs_num (fs_Pf b n m) 256))) : ∀ d i, 1 ≤ i → i + d = 256 → wX_frequent_13 post (nI m) (nI n) (fs_A b) (d + 1) (nI (fs_num (fs_Pf b n m) i)) (nI i) := by
  intro d
  induction d with
  | zero =>
    intro i _ hi
    have e : i = 256 := by omega
    subst e
    exact br_t (nI_lt (a := 255) (b := 256) (by omega) (by omega)) hp
  | succ d ih =>
    intro i h1 hi
    have hi' := ih (i + 1) (by omega) (by omega)
    have hc := fs_cn_le b i n
    refine br_f (nI_nlt (a := 255) (by omega) (by omega)) (fs_countX (by omega) hn (pk_lt (fs_cn b i n) m (fun h => ?_) (fun h => ?_)))
    · rw [fs_num_f (P := fs_Pf b n m) (i := i) (by unfold fs_Pf; simp; omega)] at hi'
      exact nm_r (nI_1 i) hi'
    · rw [fs_num_t (P := fs_Pf b n m) h1 (decide_eq_true h)] at hi'
      exact nm_r (nI_1 _) (nm_r (nI_1 i) hi')
/-! one thing more -/
theorem fs_gcX {post : Int32 → Prop} {b : Nat → Nat} {n s : Nat} (hn : n ≤ 20) (hs : s < 256) (hp : post (nI (fs_top b n s 8))) : ∀ d t, t + d = 8 → wX_greatestCountAbove_4 post (nI s) (nI n) (fs_A b) (d + 1) (nI (fs_top b n s t)) (nI t) := by
  intro d
  induction d with
  | zero =>
    intro t ht
    have e : t = 8 := by omega
    subst e
    exact br_t (nI_le (a := 8) (b := 8) (by omega) (by omega)) hp
  | succ d ih =>
    intro t ht
    have hi' := ih (t + 1) (by omega)
    have ht8 : t < 8 := by omega
    have hlt := fs_putlt hs ht8
    have hc := fs_cn_le b (s ||| 2 ^ t) n
    have hg := fs_top_le b n s t
    refine br_f (nI_ge (b := 8) ht8 (by omega)) (nm_r (fs_put s ht8) (fs_countX hlt hn (pk_eq (s ||| 2 ^ t) s (fun h => ?_) (fun h => pk_le (fs_cn b (s ||| 2 ^ t) n) (fs_top b n s t) (fun h2 => ?_) (fun h2 => ?_)))))
    · rw [fs_top, if_pos h] at hi'
      exact nm_r (nI_1 t) hi'
    · rw [fs_top, if_neg h, if_pos h2] at hi'
      exact nm_r (nI_1 t) hi'
    · rw [fs_top, if_neg h, if_neg (by omega)] at hi'
      exact nm_r (nI_1 t) hi'
theorem fs_topX {post : Int32 → Prop} {b : Nat → Nat} {n s : Nat} (hn : n ≤ 20) (hs : s < 256) (hp : post (nI (fs_top b n s 8))) : wpX_greatestCountAbove post (nI n, fs_A b) (nI s) := ⟨9, fs_gcX hn hs hp 8 0 (by omega)⟩
/-! closed -/
theorem fs_isClX {post : Int32 → Prop} {b : Nat → Nat} {n m s : Nat} (hn : n ≤ 20) (hm : m ≤ 20) (hs : s < 256) (h1 : fs_Pc b n m s = true → post 1) (h0 : ¬ fs_Pc b n m s = true → post 0) : wpX_isClosed post (nI n, fs_A b) (nI s) (nI m) := by
  have hc := fs_cn_le b s n
  have hg := fs_top_le b n s 8
  unfold wpX_isClosed
  dsimp only
  refine fs_countX hs hn (pk_lt (fs_cn b s n) m (fun h => ?_) (fun h => fs_topX hn hs (pk_le (fs_cn b s n) (fs_top b n s 8) (fun h2 => ?_) (fun h2 => ?_))))
  · exact h0 (by unfold fs_Pc; rw [decide_eq_true_iff]; omega)
  · exact h0 (by unfold fs_Pc; rw [decide_eq_true_iff]; omega)
  · exact h1 (by unfold fs_Pc; rw [decide_eq_true_iff]; omega)
theorem fs_clX {post : Int32 → Prop} {b : Nat → Nat} {n m : Nat} (hn : n ≤ 20) (hm : m ≤ 20) (hp : post (nI (fs_num (fs_Pc b n m) 256))) : ∀ d i, 1 ≤ i → i + d = 256 → wX_closed_13 post (nI m) (nI n) (fs_A b) (d + 1) (nI (fs_num (fs_Pc b n m) i)) (nI i) := by
  intro d
  induction d with
  | zero =>
    intro i _ hi
    have e : i = 256 := by omega
    subst e
    exact br_t (nI_lt (a := 255) (b := 256) (by omega) (by omega)) hp
  | succ d ih =>
    intro i h1 hi
    have hi' := ih (i + 1) (by omega) (by omega)
    refine br_f (nI_nlt (a := 255) (by omega) (by omega)) (fs_isClX hn hm (by omega) (fun h => ?_) (fun h => ?_))
    · rw [fs_num_t h1 h] at hi'
      exact br_f (by decide) (nm_r (nI_1 _) (nm_r (nI_1 i) hi'))
    · rw [fs_num_f h] at hi'
      exact br_t rfl (nm_r (nI_1 i) hi')
/-! largest -/
theorem fs_isLaX {post : Int32 → Prop} {b : Nat → Nat} {n m s : Nat} (hn : n ≤ 20) (hm : m ≤ 20) (hs : s < 256) (h1 : fs_Pl b n m s = true → post 1) (h0 : ¬ fs_Pl b n m s = true → post 0) : wpX_isLargest post (nI n, fs_A b) (nI s) (nI m) := by
  have hc := fs_cn_le b s n
  have hg := fs_top_le b n s 8
  unfold wpX_isLargest
  dsimp only
  refine fs_countX hs hn (pk_lt (fs_cn b s n) m (fun h => ?_) (fun h => fs_topX hn hs (pk_le m (fs_top b n s 8) (fun h2 => ?_) (fun h2 => ?_))))
  · exact h0 (by unfold fs_Pl; rw [decide_eq_true_iff]; omega)
  · exact h0 (by unfold fs_Pl; rw [decide_eq_true_iff]; omega)
  · exact h1 (by unfold fs_Pl; rw [decide_eq_true_iff]; omega)
theorem fs_laX {post : Int32 → Prop} {b : Nat → Nat} {n m : Nat} (hn : n ≤ 20) (hm : m ≤ 20) (hp : post (nI (fs_num (fs_Pl b n m) 256))) : ∀ d i, 1 ≤ i → i + d = 256 → wX_largest_13 post (nI m) (nI n) (fs_A b) (d + 1) (nI (fs_num (fs_Pl b n m) i)) (nI i) := by
  intro d
  induction d with
  | zero =>
    intro i _ hi
    have e : i = 256 := by omega
    subst e
    exact br_t (nI_lt (a := 255) (b := 256) (by omega) (by omega)) hp
  | succ d ih =>
    intro i h1 hi
    have hi' := ih (i + 1) (by omega) (by omega)
    refine br_f (nI_nlt (a := 255) (by omega) (by omega)) (fs_isLaX hn hm (by omega) (fun h => ?_) (fun h => ?_))
    · rw [fs_num_t h1 h] at hi'
      exact br_f (by decide) (nm_r (nI_1 _) (nm_r (nI_1 i) hi'))
    · rw [fs_num_f h] at hi'
      exact br_t rfl (nm_r (nI_1 i) hi')
/-! closedSet: d sets are left, i is the next, c closed ones stood before it -/
def fs_cs (P : Nat → Bool) (k : Int32) : Nat → Nat → Nat → Int32
  | 0, _, _ => -3
  | d + 1, i, c => if P i = true then (if nI c = k then nI i else fs_cs P k d (i + 1) (c + 1)) else fs_cs P k d (i + 1) c
theorem fs_csX {post : Int32 → Prop} {b : Nat → Nat} {n m : Nat} (k : Int32) (hn : n ≤ 20) (hm : m ≤ 20) : ∀ d i c, i + d = 256 → post (fs_cs (fs_Pc b n m) k d i c) → wX_closedSet_14 post (nI m) k (nI n) (fs_A b) (d + 1) (nI c) (nI i) := by
  intro d
  induction d with
  | zero =>
    intro i c hi hp
    have e : i = 256 := by omega
    subst e
    exact br_t (nI_lt (a := 255) (b := 256) (by omega) (by omega)) hp
  | succ d ih =>
    intro i c hi hp
    refine br_f (nI_nlt (a := 255) (by omega) (by omega)) (fs_isClX hn hm (by omega) (fun h => ?_) (fun h => ?_))
    · rw [fs_cs, if_pos h] at hp
      refine br_f (by decide) (br_c (fun hk => ?_) (fun hk => ?_))
      · rw [if_pos hk] at hp
        exact hp
      · rw [if_neg hk] at hp
        exact nm_r (nI_1 _) (nm_r (nI_1 i) (ih (i + 1) (c + 1) (by omega) hp))
    · rw [fs_cs, if_neg h] at hp
      exact br_t rfl (nm_r (nI_1 i) (ih (i + 1) c (by omega) hp))
/-! closure -/
def fs_cm (b : Nat → Nat) (s : Nat) : Nat → Int32
  | 0 => 255
  | i + 1 => if s &&& b i = s then fs_cm b s i &&& nI (b i) else fs_cm b s i
theorem fs_cmX {post : Int32 → Prop} {b : Nat → Nat} {s n : Nat} (hs : s < 256) (hn : n ≤ 20) (hp : post (fs_cm b s n)) : ∀ d i, i + d = n → wX_closure_26 post (nI s) (nI n) (fs_A b) (d + 1) (fs_cm b s i) (nI i) := by
  intro d
  induction d with
  | zero =>
    intro i hi
    have e : i = n := by omega
    subst e
    exact br_t (nI_le (Nat.le_refl _) (by omega)) hp
  | succ d ih =>
    intro i hi
    have hi' := ih (i + 1) (by omega)
    have hin : vp_in (nI i) 20 := vp_in_nI (by omega) (by omega)
    refine br_f (nI_ge (by omega) (by omega)) ⟨hin, fs_hasX (b i) s (fs_at b (by omega)) hs (fun h => ?_) (fun h => ?_)⟩
    · rw [fs_cm, if_pos h] at hi'
      exact br_f (by decide) ⟨hin, nm_r (congrArg _ (fs_at b (by omega))) (nm_r (nI_1 i) hi')⟩
    · rw [fs_cm, if_neg h] at hi'
      exact br_t rfl (nm_r (nI_1 i) hi')
/-! widest -/
def fs_th (x : Int32) : Nat → Int32
  | 0 => 0
  | t + 1 => fs_th x t + ((x >>> (nI t &&& 31)) &&& 1)
theorem fs_thX {post : Int32 → Prop} {x : Int32} (hp : post (fs_th x 8)) : ∀ d t, t + d = 8 → wX_thingsIn_4 post x (d + 1) (fs_th x t) (nI t) := by
  intro d
  induction d with
  | zero =>
    intro t ht
    have e : t = 8 := by omega
    subst e
    exact br_t (nI_le (a := 8) (b := 8) (by omega) (by omega)) hp
  | succ d ih =>
    intro t ht
    exact br_f (nI_ge (b := 8) (by omega) (by omega)) (nm_e (nm_r (nI_1 t) (ih (t + 1) (by omega))))
theorem fs_thingsX {post : Int32 → Prop} {x : Int32} (hp : post (fs_th x 8)) : wpX_thingsIn post x := ⟨9, fs_thX hp 8 0 (by omega)⟩
def fs_wd (b : Nat → Nat) (n m : Nat) : Nat → Int32
  | 0 => 0
  | i + 1 => if i = 0 then 0 else if m ≤ fs_cn b i n ∧ ¬ fs_th (nI i) 8 ≤ fs_wd b n m i then fs_th (nI i) 8 else fs_wd b n m i
theorem fs_wd_t {b : Nat → Nat} {n m i : Nat} (hi : 1 ≤ i) (h : m ≤ fs_cn b i n) (h2 : ¬ fs_th (nI i) 8 ≤ fs_wd b n m i) : fs_wd b n m (i + 1) = fs_th (nI i) 8 := by
  rw [fs_wd, if_neg (by omega), if_pos ⟨h, h2⟩]
theorem fs_wd_f {b : Nat → Nat} {n m i : Nat} (hi : 1 ≤ i) (h : ¬ (m ≤ fs_cn b i n ∧ ¬ fs_th (nI i) 8 ≤ fs_wd b n m i)) : fs_wd b n m (i + 1) = fs_wd b n m i := by
  rw [fs_wd, if_neg (by omega), if_neg h]
theorem fs_wdX {post : Int32 → Prop} {b : Nat → Nat} {n m : Nat} (hn : n ≤ 20) (hm : m ≤ 20) (hp : post (fs_wd b n m 256)) : ∀ d i, 1 ≤ i → i + d = 256 → wX_widest_13 post (nI m) (nI n) (fs_A b) (d + 1) (fs_wd b n m i) (nI i) := by
  intro d
  induction d with
  | zero =>
    intro i _ hi
    have e : i = 256 := by omega
    subst e
    exact br_t (nI_lt (a := 255) (b := 256) (by omega) (by omega)) hp
  | succ d ih =>
    intro i h1 hi
    have hi' := ih (i + 1) (by omega) (by omega)
    have hc := fs_cn_le b i n
    refine br_f (nI_nlt (a := 255) (by omega) (by omega)) (fs_thingsX (br_c (fun h => ?_) (fun h => fs_countX (by omega) hn (pk_lt (fs_cn b i n) m (fun h2 => ?_) (fun h2 => ?_)))))
    · rw [fs_wd_f h1 (fun z => z.2 h)] at hi'
      exact nm_r (nI_1 i) hi'
    · rw [fs_wd_f h1 (fun z => absurd z.1 (by omega))] at hi'
      exact nm_r (nI_1 i) hi'
    · rw [fs_wd_t h1 h2 h] at hi'
      exact nm_r (nI_1 i) hi'
/-! rules -/
theorem fs_rwX {post : Int32 → Prop} {b : Nat → Nat} {n p q : Nat} (hn : n ≤ 20) (hq : p ≤ 100) (hb : q < 256) (hp : post (nI (fs_sum (fs_F b n p q) q))) : ∀ d i, 1 ≤ i → i + d = q → wX_rulesWithin_6 post (nI q) (nI (fs_cn b q n)) (nI p) (nI n) (fs_A b) (d + 1) (nI (fs_sum (fs_F b n p q) i)) (nI i) := by
  intro d
  induction d with
  | zero =>
    intro i _ hi
    have e : i = q := by omega
    subst e
    exact br_t (nI_le (Nat.le_refl _) (by omega)) hp
  | succ d ih =>
    intro i h1 hi
    have hi' := ih (i + 1) (by omega) (by omega)
    rw [fs_sum_1] at hi'
    have hc := fs_cn_le b q n
    have hd := fs_cn_le b i n
    have hpc : p * fs_cn b i n ≤ 100 * 20 := Nat.mul_le_mul hq (by omega)
    refine br_f (nI_ge (by omega) (by omega)) (fs_hasX q i rfl (by omega) (fun h => br_f (by decide) (fs_countX (by omega) hn (pk_lt (fs_cn b q n * 100) (p * fs_cn b i n) (fun h2 => ?_) (fun h2 => ?_) (pk_mul _ 100) (pk_mul _ _)))) (fun h => ?_))
    · have e : fs_F b n p q i = 0 := by
        unfold fs_F
        rw [if_neg (by omega), if_neg (by omega)]
      rw [e] at hi'
      exact nm_r (nI_1 i) hi'
    · have e : fs_F b n p q i = 1 := by
        unfold fs_F
        rw [if_neg (by omega), if_pos ⟨h, h2⟩]
      rw [e] at hi'
      exact nm_r (nI_1 _) (nm_r (nI_1 i) hi')
    · have e : fs_F b n p q i = 0 := by
        unfold fs_F
        rw [if_neg (by omega), if_neg (fun z => h z.1)]
      rw [e] at hi'
      exact br_t rfl (nm_r (nI_1 i) hi')
theorem fs_withinX {post : Int32 → Prop} {b : Nat → Nat} {n p q : Nat} (hn : n ≤ 20) (hq : p ≤ 100) (hb : q < 256) (h1 : 1 ≤ q) (hp : post (nI (fs_sum (fs_F b n p q) q))) : wpX_rulesWithin post (nI n, fs_A b) (nI q) (nI (fs_cn b q n)) (nI p) := ⟨q - 1 + 1, fs_rwX hn hq hb hp (q - 1) 1 (by omega) (by omega)⟩
theorem fs_ruX {post : Int32 → Prop} {b : Nat → Nat} {n m p : Nat} (hn : n ≤ 20) (hm : m ≤ 20) (hq : p ≤ 100) (hp : post (nI (fs_sum (fs_Gx b n m p) 256))) : ∀ d i, 1 ≤ i → i + d = 256 → wX_rules_24 post (nI m) (nI p) (nI n) (fs_A b) (d + 1) (nI (fs_sum (fs_Gx b n m p) i)) (nI i) := by
  intro d
  induction d with
  | zero =>
    intro i _ hi
    have e : i = 256 := by omega
    subst e
    exact br_t (nI_lt (a := 255) (b := 256) (by omega) (by omega)) hp
  | succ d ih =>
    intro i h1 hi
    have hi' := ih (i + 1) (by omega) (by omega)
    rw [fs_sum_1] at hi'
    have hc := fs_cn_le b i n
    refine br_f (nI_nlt (a := 255) (by omega) (by omega)) (fs_countX (by omega) hn (pk_lt (fs_cn b i n) m (fun h => ?_) (fun h => fs_withinX hn hq (by omega) h1 ?_)))
    · have e : fs_Gx b n m p i = 0 := by
        unfold fs_Gx
        rw [if_neg (by omega), if_neg (by omega)]
      rw [e] at hi'
      exact nm_r (nI_1 i) hi'
    · have e : fs_Gx b n m p i = fs_sum (fs_F b n p i) i := by
        unfold fs_Gx
        rw [if_neg (by omega), if_pos h]
      rw [e] at hi'
      exact nm_r (nI_add _ _) (nm_r (nI_1 i) hi')
/-! companion -/
def fs_bst (b : Nat → Nat) (n s : Nat) : Nat → Option Nat
  | 0 => none
  | t + 1 => if s ||| 2 ^ t = s then fs_bst b n s t else match fs_bst b n s t with
    | none => some t
    | some j => if fs_cn b (s ||| 2 ^ t) n ≤ fs_cn b (s ||| 2 ^ j) n then some j else some t
theorem fs_bst_in {b : Nat → Nat} {n s : Nat} : ∀ t j, fs_bst b n s t = some j → j < t := by
  intro t
  induction t with
  | zero => intro j h; exact absurd h (by simp [fs_bst])
  | succ t ih =>
    intro j h
    rw [fs_bst] at h
    split at h
    · have := ih j h; omega
    · split at h
      · cases h; omega
      · split at h
        · cases h
          have := ih _ ‹_›
          omega
        · cases h; omega
theorem fs_bst_none {b : Nat → Nat} {n s : Nat} : ∀ k, fs_bst b n s k = none ↔ ∀ t, t < k → s ||| 2 ^ t = s := by
  intro k
  induction k with
  | zero => exact ⟨fun _ t ht => absurd ht (by omega), fun _ => rfl⟩
  | succ k ih =>
    rw [fs_bst]
    by_cases h : s ||| 2 ^ k = s
    · rw [if_pos h, ih]
      constructor
      · intro z t ht
        rcases Nat.lt_or_ge t k with h1 | h1
        · exact z t h1
        · have e : t = k := by omega
          subst e
          exact h
      · intro z t ht
        exact z t (by omega)
    · rw [if_neg h]
      constructor
      · intro z
        split at z
        · cases z
        · split at z <;> cases z
      · intro z
        exact absurd (z k (by omega)) h
def fs_xb (o : Option Nat) : Int32 := match o with
  | none => -3
  | some j => nI j
def fs_xc (b : Nat → Nat) (n s : Nat) (o : Option Nat) : Int32 := match o with
  | none => -1
  | some j => nI (fs_cn b (s ||| 2 ^ j) n)
def fs_yb (o : Option Nat) : Int32 := match o with
  | none => -1
  | some j => nI j
theorem fs_nm1 {a : Nat} (h : a < 2 ^ 31) : ¬ nI a ≤ -1 := by
  rw [Int32.le_iff_toInt_le, nI_toInt h, show (-1 : Int32).toInt = -1 from by decide]
  omega
theorem fs_coX {post : Int32 → Prop} {b : Nat → Nat} {n s : Nat} (hn : n ≤ 20) (hs : s < 256) (hp : post (fs_xb (fs_bst b n s 8))) : ∀ d t, t + d = 8 → wX_companion_32 post (nI s) (nI n) (fs_A b) (d + 1) (fs_xb (fs_bst b n s t)) (fs_xc b n s (fs_bst b n s t)) (nI t) := by
  intro d
  induction d with
  | zero =>
    intro t ht
    have e : t = 8 := by omega
    subst e
    exact br_t (nI_le (a := 8) (b := 8) (by omega) (by omega)) hp
  | succ d ih =>
    intro t ht
    have hi' := ih (t + 1) (by omega)
    have ht8 : t < 8 := by omega
    have hlt := fs_putlt hs ht8
    have hc := fs_cn_le b (s ||| 2 ^ t) n
    rw [fs_bst] at hi'
    refine br_f (nI_ge (b := 8) ht8 (by omega)) (nm_r (fs_put s ht8) (fs_countX hlt hn (pk_eq (s ||| 2 ^ t) s (fun h => ?_) (fun h => ?_))))
    · rw [if_pos h] at hi'
      exact nm_r (nI_1 t) hi'
    · rw [if_neg h] at hi'
      cases ho : fs_bst b n s t with
      | none =>
        rw [ho] at hi'
        exact br_f (fs_nm1 (by omega)) (nm_r (nI_1 t) hi')
      | some j =>
        rw [ho] at hi'
        dsimp only at hi'
        have hj := fs_cn_le b (s ||| 2 ^ j) n
        refine pk_le (fs_cn b (s ||| 2 ^ t) n) (fs_cn b (s ||| 2 ^ j) n) (fun h2 => ?_) (fun h2 => ?_)
        · rw [if_pos h2] at hi'
          exact nm_r (nI_1 t) hi'
        · rw [if_neg (by omega)] at hi'
          exact nm_r (nI_1 t) hi'
