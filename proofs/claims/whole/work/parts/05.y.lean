/-! 05: the reference's methods over a full table of counts, each with a general post -/
theorem fs_frY {post : Int32 → SY → Prop} {b : Nat → Nat} {c : Nat → Int32} {n m : Nat} (hn : n ≤ 20) (hm : m ≤ 20) (hc : ∀ s, s < 256 → c s = nI (fs_cn b s n)) (hp : post (nI (fs_num (fs_Pf b n m) 256)) (nI n, fs_A b, c)) : ∀ d i, 1 ≤ i → i + d = 256 → wY_frequent_18 post (nI m) (nI n) (fs_A b) c (d + 1) (nI (fs_num (fs_Pf b n m) i)) (nI i) := by
  intro d
  induction d with
  | zero =>
    intro i _ hi
    have e : i = 256 := by omega
    subst e
    exact br_t (nI_le (a := 256) (b := 256) (by omega) (by omega)) hp
  | succ d ih =>
    intro i h1 hi
    have hi' := ih (i + 1) (by omega) (by omega)
    have hl := fs_cn_le b i n
    refine br_f (nI_ge (b := 256) (by omega) (by omega)) ⟨vp_in_nI (by omega) (by omega), pk_lt (fs_cn b i n) m (fun h => ?_) (fun h => ?_) (fs_ct hc (by omega))⟩
    · rw [fs_num_f (P := fs_Pf b n m) (i := i) (by unfold fs_Pf; simp; omega)] at hi'
      exact nm_r (nI_1 i) hi'
    · rw [fs_num_t (P := fs_Pf b n m) h1 (decide_eq_true h)] at hi'
      exact nm_r (nI_1 _) (nm_r (nI_1 i) hi')
/-! noGreater: over all greater sets -/
theorem fs_ngY {post : Int32 → Prop} {b : Nat → Nat} {c : Nat → Int32} {n s e : Nat} (hn : n ≤ 20) (he : e ≤ 20) (hs : s < 256) (hc : ∀ s, s < 256 → c s = nI (fs_cn b s n)) : ∀ d i, i + d = 256 → ((∀ x, i ≤ x → x < 256 → x ≠ s → s &&& x = s → fs_cn b x n < e) → post 1) → (¬ (∀ x, i ≤ x → x < 256 → x ≠ s → s &&& x = s → fs_cn b x n < e) → post 0) → wY_noGreater_2 post (nI s) (nI e) (nI n) (fs_A b) c (d + 1) (nI i) := by
  intro d
  induction d with
  | zero =>
    intro i hi h1 _
    have e : i = 256 := by omega
    subst e
    exact br_t (nI_le (a := 256) (b := 256) (by omega) (by omega)) (h1 (fun x hx hx2 => absurd hx (by omega)))
  | succ d ih =>
    intro i hi h1 h0
    have hl := fs_cn_le b i n
    have step : (i ≠ s → s &&& i = s → fs_cn b i n < e) → wY_noGreater_2 post (nI s) (nI e) (nI n) (fs_A b) c (d + 1) (nI (i + 1)) := by
      intro hq
      refine ih (i + 1) (by omega) (fun h => h1 (fun x hx hx2 hne hin => ?_)) (fun h => h0 (fun z => h (fun x hx hx2 hne hin => z x (by omega) hx2 hne hin)))
      rcases Nat.lt_or_ge i x with h3 | h3
      · exact h x h3 hx2 hne hin
      · have e : x = i := by omega
        subst e
        exact hq hne hin
    refine br_f (nI_ge (b := 256) (by omega) (by omega)) (pk_eq i s (fun h => ?_) (fun h => ?_))
    · exact nm_r (nI_1 i) (step (fun z => absurd h z))
    · by_cases hin : s &&& i = s
      · refine br_t ((fs_no hs).mpr hin) ⟨vp_in_nI (by omega) (by omega), pk_lt (fs_cn b i n) e (fun h2 => ?_) (fun h2 => ?_) (fs_ct hc (by omega))⟩
        · exact nm_r (nI_1 i) (step (fun _ _ => h2))
        · exact h0 (fun z => absurd (z i (Nat.le_refl _) (by omega) h hin) (by omega))
      · exact br_f (fun z => hin ((fs_no hs).mp z)) (nm_r (nI_1 i) (step (fun _ z => absurd z hin)))
theorem fs_noGrY {post : Int32 → Prop} {b : Nat → Nat} {c : Nat → Int32} {n s e : Nat} (hn : n ≤ 20) (h0e : 0 < e) (he : e ≤ 20) (hs : s < 256) (hc : ∀ s, s < 256 → c s = nI (fs_cn b s n)) (h1 : fs_top b n s 8 < e → post 1) (h0 : ¬ fs_top b n s 8 < e → post 0) : wpY_noGreater post (nI n, fs_A b, c) (nI s) (nI e) := by
  rw [fs_top_all hs h0e] at h1 h0
  exact ⟨256, fs_ngY hn he hs hc 255 1 (by omega) h1 h0⟩
/-! closed -/
theorem fs_isClY {post : Int32 → Prop} {b : Nat → Nat} {c : Nat → Int32} {n m s : Nat} (hn : n ≤ 20) (hm0 : 1 ≤ m) (hm : m ≤ 20) (hs : s < 256) (hc : ∀ s, s < 256 → c s = nI (fs_cn b s n)) (h1 : fs_Pc b n m s = true → post 1) (h0 : ¬ fs_Pc b n m s = true → post 0) : wpY_isClosed post (nI n, fs_A b, c) (nI s) (nI m) := by
  have hl := fs_cn_le b s n
  have hin : vp_in (nI s) 256 := vp_in_nI (by omega) (by omega)
  unfold wpY_isClosed
  dsimp only
  rw [fs_ct hc hs]
  refine ⟨hin, pk_lt (fs_cn b s n) m (fun h => ?_) (fun h => ⟨hin, fs_noGrY hn (by omega) (by omega) hs hc (fun h2 => ?_) (fun h2 => ?_)⟩)⟩
  · exact h0 (by unfold fs_Pc; rw [decide_eq_true_iff]; omega)
  · exact br_f (by decide) (h1 (by unfold fs_Pc; rw [decide_eq_true_iff]; omega))
  · exact br_t rfl (h0 (by unfold fs_Pc; rw [decide_eq_true_iff]; omega))
theorem fs_clY {post : Int32 → SY → Prop} {b : Nat → Nat} {c : Nat → Int32} {n m : Nat} (hn : n ≤ 20) (hm0 : 1 ≤ m) (hm : m ≤ 20) (hc : ∀ s, s < 256 → c s = nI (fs_cn b s n)) (hp : post (nI (fs_num (fs_Pc b n m) 256)) (nI n, fs_A b, c)) : ∀ d i, 1 ≤ i → i + d = 256 → wY_closed_18 post (nI m) (nI n) (fs_A b) c (d + 1) (nI (fs_num (fs_Pc b n m) i)) (nI i) := by
  intro d
  induction d with
  | zero =>
    intro i _ hi
    have e : i = 256 := by omega
    subst e
    exact br_t (nI_le (a := 256) (b := 256) (by omega) (by omega)) hp
  | succ d ih =>
    intro i h1 hi
    have hi' := ih (i + 1) (by omega) (by omega)
    refine br_f (nI_ge (b := 256) (by omega) (by omega)) (fs_isClY hn hm0 hm (by omega) hc (fun h => ?_) (fun h => ?_))
    · rw [fs_num_t h1 h] at hi'
      exact br_f (by decide) (nm_r (nI_1 _) (nm_r (nI_1 i) hi'))
    · rw [fs_num_f h] at hi'
      exact br_t rfl (nm_r (nI_1 i) hi')
/-! largest -/
theorem fs_laY {post : Int32 → SY → Prop} {b : Nat → Nat} {c : Nat → Int32} {n m : Nat} (hn : n ≤ 20) (hm0 : 1 ≤ m) (hm : m ≤ 20) (hc : ∀ s, s < 256 → c s = nI (fs_cn b s n)) (hp : post (nI (fs_num (fs_Pl b n m) 256)) (nI n, fs_A b, c)) : ∀ d i, 1 ≤ i → i + d = 256 → wY_largest_18 post (nI m) (nI n) (fs_A b) c (d + 1) (nI (fs_num (fs_Pl b n m) i)) (nI i) := by
  intro d
  induction d with
  | zero =>
    intro i _ hi
    have e : i = 256 := by omega
    subst e
    exact br_t (nI_le (a := 256) (b := 256) (by omega) (by omega)) hp
  | succ d ih =>
    intro i h1 hi
    have hi' := ih (i + 1) (by omega) (by omega)
    have hl := fs_cn_le b i n
    refine br_f (nI_ge (b := 256) (by omega) (by omega)) ⟨vp_in_nI (by omega) (by omega), pk_lt (fs_cn b i n) m (fun h => ?_) (fun h => fs_noGrY hn (by omega) (by omega) (by omega) hc (fun h2 => ?_) (fun h2 => ?_)) (fs_ct hc (by omega))⟩
    · rw [fs_num_f (P := fs_Pl b n m) (i := i) (by unfold fs_Pl; rw [decide_eq_true_iff]; omega)] at hi'
      exact nm_r (nI_1 i) hi'
    · rw [fs_num_t (P := fs_Pl b n m) h1 (by unfold fs_Pl; rw [decide_eq_true_iff]; omega)] at hi'
      exact br_f (by decide) (nm_r (nI_1 _) (nm_r (nI_1 i) hi'))
    · rw [fs_num_f (P := fs_Pl b n m) (i := i) (by unfold fs_Pl; rw [decide_eq_true_iff]; omega)] at hi'
      exact br_t rfl (nm_r (nI_1 i) hi')
/-! closedSet -/
theorem fs_csY {post : Int32 → SY → Prop} {b : Nat → Nat} {c : Nat → Int32} {n m : Nat} (k : Int32) (hn : n ≤ 20) (hm0 : 1 ≤ m) (hm : m ≤ 20) (hc : ∀ s, s < 256 → c s = nI (fs_cn b s n)) : ∀ d i e, i + d = 256 → post (fs_cs (fs_Pc b n m) k d i e) (nI n, fs_A b, c) → wY_closedSet_19 post (nI m) k (nI n) (fs_A b) c (d + 1) (nI e) (nI i) := by
  intro d
  induction d with
  | zero =>
    intro i e hi hp
    have e : i = 256 := by omega
    subst e
    exact br_t (nI_le (a := 256) (b := 256) (by omega) (by omega)) hp
  | succ d ih =>
    intro i e hi hp
    refine br_f (nI_ge (b := 256) (by omega) (by omega)) (fs_isClY hn hm0 hm (by omega) hc (fun h => ?_) (fun h => ?_))
    · rw [fs_cs, if_pos h] at hp
      refine br_f (by decide) (br_c (fun hk => ?_) (fun hk => ?_))
      · rw [if_pos hk] at hp
        exact hp
      · rw [if_neg hk] at hp
        exact nm_r (nI_1 _) (nm_r (nI_1 i) (ih (i + 1) (e + 1) (by omega) hp))
    · rw [fs_cs, if_neg h] at hp
      exact br_t rfl (nm_r (nI_1 i) (ih (i + 1) e (by omega) hp))
/-! closure: the flag tells whether a basket was met -/
def fs_fl (q : Nat) : Int32 := if q = 0 then 0 else 1
theorem fs_cmY {post : Int32 → Prop} {b : Nat → Nat} {c : Nat → Int32} {s n : Nat} (hs : s < 256) (hn : n ≤ 20) (h0 : fs_cn b s n = 0 → post (-3)) (h1 : fs_cn b s n ≠ 0 → post (fs_cm b s n)) : ∀ d i, i + d = n → wY_closure_19 post (nI s) (nI n) (fs_A b) c (d + 1) (fs_cm b s i) (fs_fl (fs_cn b s i)) (nI i) := by
  intro d
  induction d with
  | zero =>
    intro i hi
    have e : i = n := by omega
    subst e
    refine br_t (nI_le (Nat.le_refl _) (by omega)) ?_
    by_cases h : fs_cn b s i = 0
    · exact br_t (by unfold fs_fl; rw [if_pos h]) (h0 h)
    · exact br_f (by unfold fs_fl; rw [if_neg h]; decide) (h1 h)
  | succ d ih =>
    intro i hi
    have hi' := ih (i + 1) (by omega)
    have hin : vp_in (nI i) 20 := vp_in_nI (by omega) (by omega)
    refine br_f (nI_ge (by omega) (by omega)) ⟨hin, ?_⟩
    rw [fs_at b (by omega)]
    by_cases h : s &&& b i = s
    · rw [fs_cm, if_pos h, fs_cn_t h] at hi'
      have e : fs_fl (fs_cn b s i + 1) = 1 := if_neg (by omega)
      rw [e] at hi'
      exact br_t ((fs_no hs).mpr h) ⟨hin, nm_e (nm_r (nI_1 i) hi')⟩
    · rw [fs_cm, if_neg h, fs_cn_f h] at hi'
      exact br_f (fun z => h ((fs_no hs).mp z)) (nm_r (nI_1 i) hi')
/-! widest -/
theorem fs_thY {post : Int32 → Prop} {x f : Int32} {a c : Nat → Int32} (hp : post (fs_th x 8)) : ∀ d t, t + d = 8 → wY_sizeOf_4 post x f a c (d + 1) (fs_th x t) (nI t) := by
  intro d
  induction d with
  | zero =>
    intro t ht
    have e : t = 8 := by omega
    subst e
    exact br_t (nI_le (a := 8) (b := 8) (by omega) (by omega)) hp
  | succ d ih =>
    intro t ht
    exact br_f (nI_ge (b := 8) (by omega) (by omega)) (nm_e (nm_r (nI_1 t) (ih (t + 1) (by omega))))
theorem fs_sizeY {post : Int32 → Prop} {x f : Int32} {a c : Nat → Int32} (hp : post (fs_th x 8)) : wpY_sizeOf post (f, a, c) x := ⟨9, fs_thY hp 8 0 (by omega)⟩
theorem fs_wdY {post : Int32 → SY → Prop} {b : Nat → Nat} {c : Nat → Int32} {n m : Nat} (hn : n ≤ 20) (hm : m ≤ 20) (hc : ∀ s, s < 256 → c s = nI (fs_cn b s n)) (hp : post (fs_wd b n m 256) (nI n, fs_A b, c)) : ∀ d i, 1 ≤ i → i + d = 256 → wY_widest_18 post (nI m) (nI n) (fs_A b) c (d + 1) (fs_wd b n m i) (nI i) := by
  intro d
  induction d with
  | zero =>
    intro i _ hi
    have e : i = 256 := by omega
    subst e
    exact br_t (nI_le (a := 256) (b := 256) (by omega) (by omega)) hp
  | succ d ih =>
    intro i h1 hi
    have hi' := ih (i + 1) (by omega) (by omega)
    have hl := fs_cn_le b i n
    refine br_f (nI_ge (b := 256) (by omega) (by omega)) ⟨vp_in_nI (by omega) (by omega), pk_lt (fs_cn b i n) m (fun h2 => ?_) (fun h2 => fs_sizeY (br_c (fun h => ?_) (fun h => fs_sizeY ?_))) (fs_ct hc (by omega))⟩
    · rw [fs_wd_f h1 (fun z => absurd z.1 (by omega))] at hi'
      exact nm_r (nI_1 i) hi'
    · rw [fs_wd_f h1 (fun z => z.2 h)] at hi'
      exact nm_r (nI_1 i) hi'
    · rw [fs_wd_t h1 h2 h] at hi'
      exact nm_r (nI_1 i) hi'
/-! rules -/
theorem fs_r1Y {post : Int32 → SY → Prop} {J : Int32 → Int32 → Prop} {b : Nat → Nat} {c : Nat → Int32} {n m p f : Nat} (q : Nat) (hn : n ≤ 20) (hm : m ≤ 20) (hq : p ≤ 100) (hf : f < 256) (hc : ∀ s, s < 256 → c s = nI (fs_cn b s n)) (hJ : J (nI (q + fs_sum (fs_H b n m p f) 256)) (nI (f + 1))) : ∀ d i, 1 ≤ i → i + d = 256 → wY_rules_40 post J (nI m) (nI p) (nI f) (nI n) (fs_A b) c (d + 1) (nI (q + fs_sum (fs_H b n m p f) i)) (nI i) := by
  intro d
  induction d with
  | zero =>
    intro i _ hi
    have e : i = 256 := by omega
    subst e
    exact br_t (nI_le (a := 256) (b := 256) (by omega) (by omega)) (nm_r (nI_1 f) hJ)
  | succ d ih =>
    intro i h1 hi
    have hi' := ih (i + 1) (by omega) (by omega)
    rw [fs_sum_1, ← Nat.add_assoc] at hi'
    have hlt := fs_orlt (s := f) (x := i) hf (by omega)
    have hl := fs_cn_le b (f ||| i) n
    have hd := fs_cn_le b f n
    have hpc : p * fs_cn b f n ≤ 100 * 20 := Nat.mul_le_mul hq (by omega)
    refine br_f (nI_ge (b := 256) (by omega) (by omega)) ?_
    rw [fs_or]
    refine ⟨vp_in_nI hlt (by omega), nm_r (fs_ct hc hlt) ?_⟩
    by_cases h0 : f &&& i = 0
    · refine br_t ((fs_dis hf).mpr h0) (pk_lt (fs_cn b (f ||| i) n) m (fun h => ?_) (fun h => ⟨vp_in_nI hf (by omega), pk_lt (100 * fs_cn b (f ||| i) n) (p * fs_cn b f n) (fun h2 => ?_) (fun h2 => ?_) (pk_mul 100 _) ?_⟩))
      · have e : fs_H b n m p f i = 0 := by
          unfold fs_H
          rw [if_neg (by omega), if_neg (by simp; omega)]
        rw [e] at hi'
        exact nm_r (nI_1 i) hi'
      · have e : fs_H b n m p f i = 0 := by
          unfold fs_H
          rw [if_neg (by omega), if_neg (by simp; omega)]
        rw [e] at hi'
        exact nm_r (nI_1 i) hi'
      · have e : fs_H b n m p f i = 1 := by
          unfold fs_H
          rw [if_neg (by omega), if_pos (by simp [h0, h, h2])]
        rw [e] at hi'
        exact nm_r (nI_1 _) (nm_r (nI_1 i) hi')
      · rw [fs_ct hc hf]
        exact pk_mul _ _
    · have e : fs_H b n m p f i = 0 := by
        unfold fs_H
        rw [if_neg (by omega), if_neg (fun z => h0 z.1)]
      rw [e] at hi'
      exact br_f (fun z => h0 ((fs_dis hf).mp z)) (nm_r (nI_1 i) hi')
theorem fs_H_1 (b : Nat → Nat) (n m p f : Nat) : fs_sum (fs_H b n m p f) 1 = 0 := rfl
theorem fs_r2Y {post : Int32 → SY → Prop} {b : Nat → Nat} {c : Nat → Int32} {n m p : Nat} (hn : n ≤ 20) (hm : m ≤ 20) (hq : p ≤ 100) (hc : ∀ s, s < 256 → c s = nI (fs_cn b s n)) (hp : post (nI (fs_sum (fs_Gy b n m p) 256)) (nI n, fs_A b, c)) : ∀ d i, 1 ≤ i → i + d = 256 → wY_rules_29 post (nI m) (nI p) (nI n) (fs_A b) c (d + 1) (nI (fs_sum (fs_Gy b n m p) i)) (nI i) := by
  intro d
  induction d with
  | zero =>
    intro i _ hi
    have e : i = 256 := by omega
    subst e
    exact br_t (nI_le (a := 256) (b := 256) (by omega) (by omega)) hp
  | succ d ih =>
    intro i h1 hi
    have hi' := ih (i + 1) (by omega) (by omega)
    have e : fs_Gy b n m p i = fs_sum (fs_H b n m p i) 256 := if_neg (by omega)
    rw [fs_sum_1, e] at hi'
    have h := fs_r1Y (post := post) (fs_sum (fs_Gy b n m p) i) hn hm hq (by omega) hc hi' 255 1 (by omega) (by omega)
    rw [fs_H_1, Nat.add_zero] at h
    exact br_f (nI_ge (b := 256) (by omega) (by omega)) ⟨256, h⟩
/-! companion -/
theorem fs_coY {post : Int32 → SY → Prop} {b : Nat → Nat} {c : Nat → Int32} {n s : Nat} (hn : n ≤ 20) (hs : s < 256) (hc : ∀ s, s < 256 → c s = nI (fs_cn b s n)) (hp : post (fs_yb (fs_bst b n s 8)) (nI n, fs_A b, c)) : ∀ d t, t + d = 8 → wY_companion_41 post (nI s) (nI n) (fs_A b) c (d + 1) (fs_yb (fs_bst b n s t)) (nI t) := by
  intro d
  induction d with
  | zero =>
    intro t ht
    have e : t = 8 := by omega
    subst e
    exact br_t (nI_le (a := 8) (b := 8) (by omega) (by omega)) hp
  | succ d ih =>
    intro t ht
    have hi' := ih (t + 1) (by omega)
    have ht8 : t < 8 := by omega
    have hlt := fs_putlt hs ht8
    have hl := fs_cn_le b (s ||| 2 ^ t) n
    rw [fs_bst] at hi'
    refine br_f (nI_ge (b := 8) ht8 (by omega)) ?_
    by_cases h : s ||| 2 ^ t = s
    · rw [if_pos h] at hi'
      exact br_f (fun z => ((fs_out hs ht8).mp z) h) (br_t rfl (nm_r (nI_1 t) hi'))
    · rw [if_neg h] at hi'
      refine br_t ((fs_out hs ht8).mpr h) (br_f (by decide) ?_)
      cases ho : fs_bst b n s t with
      | none =>
        rw [ho] at hi'
        exact br_t (by decide) (nm_r (nI_1 t) hi')
      | some j =>
        rw [ho] at hi'
        dsimp only at hi'
        have hj : j < 8 := by
          have := fs_bst_in _ _ ho
          omega
        have hjl := fs_putlt hs hj
        have hj2 := fs_cn_le b (s ||| 2 ^ j) n
        have e1 : fs_yb (some j) = nI j := rfl
        rw [e1, fs_and7 j hj, fs_put s ht8, fs_put s hj]
        refine br_f (nI_pos (by omega)) ⟨vp_in_nI hlt (by omega), vp_in_nI hjl (by omega), pk_le (fs_cn b (s ||| 2 ^ t) n) (fs_cn b (s ||| 2 ^ j) n) (fun h2 => ?_) (fun h2 => ?_) (fs_ct hc hlt) (fs_ct hc hjl)⟩
        · rw [if_pos h2] at hi'
          exact nm_r (nI_1 t) hi'
        · rw [if_neg (by omega)] at hi'
          exact nm_r (nI_1 t) hi'
