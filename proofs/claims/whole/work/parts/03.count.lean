/-! 03: the counts, on both sides -/
def fs_A (b : Nat → Nat) : Nat → Int32 := fun j => nI (b j)
theorem fs_at (b : Nat → Nat) {i : Nat} (hi : i < 2 ^ 31) : fs_A b (nI i).toNatClampNeg = nI (b i) := congrArg (fs_A b) (nI_clamp hi)
theorem fs_hasX {post : Int32 → Prop} {x : Int32} (c s : Nat) (hx : x = nI c) (hs : s < 256) (h1 : s &&& c = s → post 1) (h0 : ¬ s &&& c = s → post 0) : wpX_hasAll post x (nI s) := by
  subst hx
  by_cases h : s &&& c = s
  · exact br_t ((fs_sub' hs).mpr h) (h1 h)
  · exact br_f (fun z => h ((fs_sub' hs).mp z)) (h0 h)
theorem fs_cntX {post : Int32 → Prop} {b : Nat → Nat} {s n : Nat} (hs : s < 256) (hn : n ≤ 20) (hp : post (nI (fs_cn b s n))) : ∀ d i, i + d = n → wX_countOf_4 post (nI s) (nI n) (fs_A b) (d + 1) (nI (fs_cn b s i)) (nI i) := by
  intro d
  induction d with
  | zero =>
    intro i hi
    have e : i = n := by omega
    subst e
    exact br_t (nI_le (Nat.le_refl _) (by omega)) hp
  | succ d ih =>
    intro i hi
    have hi' := ih (i + 1) (by omega)
    refine br_f (nI_ge (by omega) (by omega)) ⟨vp_in_nI (by omega) (by omega), fs_hasX (b i) s (fs_at b (by omega)) hs (fun h => ?_) (fun h => ?_)⟩
    · rw [fs_cn_t h] at hi'
      exact br_f (by decide) (nm_r (nI_1 _) (nm_r (nI_1 i) hi'))
    · rw [fs_cn_f h] at hi'
      exact br_t rfl (nm_r (nI_1 i) hi')
theorem fs_countX {post : Int32 → Prop} {b : Nat → Nat} {s n : Nat} (hs : s < 256) (hn : n ≤ 20) (hp : post (nI (fs_cn b s n))) : wpX_countOf post (nI n, fs_A b) (nI s) := ⟨n + 1, fs_cntX hs hn hp n 0 (by omega)⟩
/-! the reference's table of counts -/
theorem fs_uu (c : Nat → Int32) (k : Nat) (x y : Int32) : upd (upd c k x) k y = upd c k y := by
  funext j
  by_cases h : j = k
  · subst h; rw [pk_us, pk_us]
  · rw [pk_un h, pk_un h, pk_un h]
def fs_C (b : Nat → Nat) (n : Nat) (c : Nat → Int32) (s : Nat) : Nat → Int32 := fun j => if j < s then nI (fs_cn b j n) else c j
theorem fs_C_s (b : Nat → Nat) (n : Nat) (c : Nat → Int32) (s : Nat) : upd (fs_C b n c s) s (nI (fs_cn b s n)) = fs_C b n c (s + 1) := by
  funext j
  by_cases h : j = s
  · subst h
    rw [pk_us]
    exact (if_pos (Nat.lt_succ_self j)).symm
  · rw [pk_un h]
    unfold fs_C
    by_cases h1 : j < s
    · rw [if_pos h1, if_pos (by omega)]
    · rw [if_neg h1, if_neg (by omega)]
theorem fs_cy1 {post : SY → Prop} {J : Int32 → (Nat → Int32) → (Nat → Int32) → Prop} {b : Nat → Nat} {c : Nat → Int32} {s n : Nat} (hs : s < 256) (hn : n ≤ 20) (hJ : J (nI (s + 1)) (fs_A b) (upd c s (nI (fs_cn b s n)))) : ∀ d i, i + d = n → wY_countAll_18 post J (nI s) (nI n) (d + 1) (nI i) (fs_A b) (upd c s (nI (fs_cn b s i))) := by
  intro d
  induction d with
  | zero =>
    intro i hi
    have e : i = n := by omega
    subst e
    exact br_t (nI_le (Nat.le_refl _) (by omega)) (nm_r (nI_1 s) hJ)
  | succ d ih =>
    intro i hi
    have hi' := ih (i + 1) (by omega)
    refine br_f (nI_ge (by omega) (by omega)) ⟨vp_in_nI (by omega) (by omega), ?_⟩
    rw [fs_at b (by omega)]
    by_cases h : s &&& b i = s
    · rw [fs_cn_t h] at hi'
      refine br_t ((fs_no hs).mpr h) ⟨vp_in_nI hs (by omega), vp_in_nI hs (by omega), nm_r ?_ (nm_r (nI_1 i) hi')⟩
      rw [nI_clamp (by omega), pk_us, fs_uu, nI_1]
    · rw [fs_cn_f h] at hi'
      exact br_f (fun z => h ((fs_no hs).mp z)) (nm_r (nI_1 i) hi')
theorem fs_cy2 {post : SY → Prop} {b : Nat → Nat} {c : Nat → Int32} {n : Nat} (hn : n ≤ 20) (hp : post (nI n, fs_A b, fs_C b n c 256)) : ∀ d s, s + d = 256 → wY_countAll_2 post (nI n) (d + 1) (nI s) (fs_A b) (fs_C b n c s) := by
  intro d
  induction d with
  | zero =>
    intro s hs
    have e : s = 256 := by omega
    subst e
    exact br_t (nI_le (a := 256) (b := 256) (Nat.le_refl _) (by omega)) hp
  | succ d ih =>
    intro s hs
    have hi' := ih (s + 1) (by omega)
    rw [← fs_C_s] at hi'
    refine br_f (nI_ge (b := 256) (by omega) (by omega)) ⟨vp_in_nI (by omega) (by omega), nm_r (e' := upd (fs_C b n c s) s (nI (fs_cn b s 0))) ?_ ⟨n + 1, fs_cy1 (by omega) hn hi' n 0 (by omega)⟩⟩
    rw [nI_clamp (by omega)]
    exact congrArg _ nI_0.symm
theorem fs_allY {post : SY → Prop} {b : Nat → Nat} {c : Nat → Int32} {n : Nat} (hn : n ≤ 20) (hp : ∀ c', (∀ s, s < 256 → c' s = nI (fs_cn b s n)) → post (nI n, fs_A b, c')) : wpY_countAll post (nI n, fs_A b, c) := by
  refine ⟨257, ?_⟩
  have h := fs_cy2 (post := post) (b := b) (c := c) hn (hp _ (fun s hs => if_pos hs)) 256 0 (by omega)
  have e : fs_C b n c 0 = c := by
    funext j
    exact if_neg (by omega)
  rw [e] at h
  exact h
theorem fs_ct {b : Nat → Nat} {n : Nat} {c : Nat → Int32} (hc : ∀ s, s < 256 → c s = nI (fs_cn b s n)) {s : Nat} (hs : s < 256) : c (nI s).toNatClampNeg = nI (fs_cn b s n) := by
  rw [nI_clamp (by omega)]
  exact hc s hs
