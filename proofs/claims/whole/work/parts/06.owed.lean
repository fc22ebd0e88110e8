/-! 06: the relation, and what is owed -/
theorem fs_set (x : Int32) : ((∀ post : Int32 → Prop, post 0 → wpX_isSet post x) ∧ (∀ (post : Int32 → Prop) (f : Int32) (a c : Nat → Int32), post 0 → wpY_isSet post (f, a, c) x)) ∨ (∃ s, s < 256 ∧ x = nI s ∧ (∀ post : Int32 → Prop, post 1 → wpX_isSet post x) ∧ (∀ (post : Int32 → Prop) (f : Int32) (a c : Nat → Int32), post 1 → wpY_isSet post (f, a, c) x)) := by
  by_cases h : x < 0
  · exact Or.inl ⟨fun _ hp => br_t h hp, fun _ _ _ _ hp => br_t h hp⟩
  · by_cases h2 : 255 < x
    · exact Or.inl ⟨fun _ hp => br_f h (br_t h2 hp), fun _ _ _ _ hp => br_f h (br_t h2 hp)⟩
    · obtain ⟨s, hs, e⟩ := nI_of2 (x := x) (M := 255) (n := 255) (by decide) h (Int32.not_lt.mp h2)
      exact Or.inr ⟨s, by omega, e, fun _ hp => br_f h (br_f h2 hp), fun _ _ _ _ hp => br_f h (br_f h2 hp)⟩
theorem fs_lim (x : Int32) : ((∀ post : Int32 → Prop, post 0 → wpX_isLimit post x) ∧ (∀ (post : Int32 → Prop) (f : Int32) (a c : Nat → Int32), post 0 → wpY_isLevel post (f, a, c) x)) ∨ (∃ m, 1 ≤ m ∧ m ≤ 20 ∧ x = nI m ∧ (∀ post : Int32 → Prop, post 1 → wpX_isLimit post x) ∧ (∀ (post : Int32 → Prop) (f : Int32) (a c : Nat → Int32), post 1 → wpY_isLevel post (f, a, c) x)) := by
  by_cases h : x < 1
  · exact Or.inl ⟨fun _ hp => br_t h hp, fun _ _ _ _ hp => br_t h hp⟩
  · by_cases h2 : 20 < x
    · exact Or.inl ⟨fun _ hp => br_f h (br_t h2 hp), fun _ _ _ _ hp => br_f h (br_t h2 hp)⟩
    · have h0 : ¬ x < 0 := fun z => h (Int32.lt_trans z (by decide))
      obtain ⟨m, hm, e⟩ := nI_of2 (x := x) (M := 20) (n := 20) (by decide) h0 (Int32.not_lt.mp h2)
      refine Or.inr ⟨m, ?_, hm, e, fun _ hp => br_f h (br_f h2 hp), fun _ _ _ _ hp => br_f h (br_f h2 hp)⟩
      rcases Nat.eq_zero_or_pos m with hz | hz
      · subst hz
        subst e
        exact absurd (by decide +kernel : nI 0 < 1) h
      · exact hz
/-- the two hold the same baskets; the reference's counts may be anything (they are made anew before use) -/
def i_Rel (_ : Nat) (u : SX) (v : SY) : Prop := ∃ (n : Nat) (b : Nat → Nat) (c : Nat → Int32), n ≤ 20 ∧ u = (nI n, fs_A b) ∧ v = (nI n, fs_A b, c)
theorem fs_rel {k n : Nat} {b : Nat → Nat} {c : Nat → Int32} (hn : n ≤ 20) : i_Rel k (nI n, fs_A b) (nI n, fs_A b, c) := ⟨n, b, c, hn, rfl, rfl⟩
theorem i_up {k : Nat} {u : SX} {v : SY} (h : i_Rel k u v) : i_Rel (k + 3) u v := h
theorem i_vc0 : wpX_init (fun u => wpY_init (fun v => i_Rel 0 u v)) := by
  have e : (fun _ => 0 : Nat → Int32) = fs_A (fun _ => 0) := funext fun _ => nI_0.symm
  exact ⟨0, fun _ => 0, fun _ => 0, by omega, by rw [← e, nI_0], by rw [← e, nI_0]⟩
/-! add -/
theorem fs_put1 (b : Nat → Nat) (k s : Nat) : upd (fs_A b) k (nI s) = fs_A (fun j => if j = k then s else b j) := by
  funext j
  by_cases h : j = k
  · subst h
    rw [pk_us]
    exact congrArg nI (if_pos rfl).symm
  · rw [pk_un h]
    exact congrArg nI (if_neg h).symm
theorem i_vc_add {k : Nat} {u : SX} {v : SY} (I : i_Rel k u v) (hk : k + 3 ≤ 1536) (v1 : Int32) : wpX_add (fun r u' => wpY_add (fun r' v' => r' = r ∧ i_Rel (k + 3) u' v') v v1) u v1 := by
  obtain ⟨n, b, c, hn, rfl, rfl⟩ := I
  unfold wpX_add wpY_add
  dsimp only
  refine pk_lt n 20 (fun h => ?_) (fun h => ?_)
  · have h20 : ¬ nI n = 20 := fun z => absurd ((nI_eq (a := n) (b := 20) (by omega) (by omega)).mp z) (by omega)
    have hin : vp_in (nI n) 20 := vp_in_nI h (by omega)
    rcases fs_set v1 with ⟨hX, hY⟩ | ⟨s, hs, rfl, hX, hY⟩
    · exact hX _ (br_t rfl (br_f h20 (hY _ _ _ _ (br_t rfl ⟨rfl, fs_rel hn⟩))))
    · have e : upd (fs_A b) (nI n).toNatClampNeg (nI s) = fs_A (fun j => if j = n then s else b j) := by
        rw [nI_clamp (by omega), fs_put1]
      refine hX _ (br_f (by decide) ⟨hin, nm_r e (nm_r (nI_1 n) (br_f h20 (hY _ _ _ _ (br_f (by decide) ⟨hin, nm_r e (nm_r (nI_1 n) ⟨rfl, ?_⟩)⟩))))⟩)
      exact fs_rel (by omega)
  · have e : n = 20 := by omega
    subst e
    exact br_t rfl ⟨rfl, fs_rel hn⟩
/-! drop -/
def fs_dr (b : Nat → Nat) (i : Nat) : Nat → Nat := fun j => if j < i then b (j + 1) else b j
theorem fs_dr_s (b : Nat → Nat) (i : Nat) : upd (fs_A (fs_dr b i)) i (fs_A (fs_dr b i) (i + 1)) = fs_A (fs_dr b (i + 1)) := by
  funext j
  by_cases h : j = i
  · subst h
    rw [pk_us]
    unfold fs_A fs_dr
    rw [if_neg (by omega), if_pos (by omega)]
  · rw [pk_un h]
    unfold fs_A fs_dr
    by_cases h1 : j < i
    · rw [if_pos h1, if_pos (by omega)]
    · rw [if_neg h1, if_neg (by omega)]
theorem fs_dr_0 (b : Nat → Nat) : fs_dr b 0 = b := by
  funext j
  exact if_neg (by omega)
theorem fs_dr_u (b : Nat → Nat) {i : Nat} (hi : i < 20) : upd (fs_A (fs_dr b i)) (nI i).toNatClampNeg (fs_A (fs_dr b i) (nI i + 1).toNatClampNeg) = fs_A (fs_dr b (i + 1)) := by
  rw [nI_1, nI_clamp (by omega), nI_clamp (by omega), fs_dr_s]
theorem fs_drX {post : Int32 → SX → Prop} {b : Nat → Nat} {n : Nat} (hn : n < 20) (hp : post (nI n) (nI n, fs_A (fs_dr b n))) : ∀ d i, i + d = n → wX_drop_22 post (nI n) (d + 1) (nI i) (fs_A (fs_dr b i)) := by
  intro d
  induction d with
  | zero =>
    intro i hi
    have e : i = n := by omega
    subst e
    exact br_t (nI_le (Nat.le_refl _) (by omega)) hp
  | succ d ih =>
    intro i hi
    refine br_f (nI_ge (by omega) (by omega)) ⟨?_, vp_in_nI (by omega) (by omega), nm_r (fs_dr_u b (by omega)) (nm_r (nI_1 i) (ih (i + 1) (by omega)))⟩
    rw [nI_1]
    exact vp_in_nI (by omega) (by omega)
theorem fs_drY {post : Int32 → SY → Prop} {b : Nat → Nat} {c : Nat → Int32} {n : Nat} (hn : n < 20) (hp : post (nI n) (nI n, fs_A (fs_dr b n), c)) : ∀ d i, i + d = n → wY_drop_12 post (nI (n + 1)) (d + 1) (nI i) (fs_A (fs_dr b i)) c := by
  intro d
  induction d with
  | zero =>
    intro i hi
    have e : i = n := by omega
    subst e
    refine br_t ?_ (nm_r (nI_pred i) hp)
    rw [nI_pred]
    exact nI_le (Nat.le_refl _) (by omega)
  | succ d ih =>
    intro i hi
    refine br_f ?_ ⟨?_, vp_in_nI (by omega) (by omega), nm_r (fs_dr_u b (by omega)) (nm_r (nI_1 i) (ih (i + 1) (by omega)))⟩
    · rw [nI_pred]
      exact nI_ge (by omega) (by omega)
    · rw [nI_1]
      exact vp_in_nI (by omega) (by omega)
theorem i_vc_drop {k : Nat} {u : SX} {v : SY} (I : i_Rel k u v) (hk : k + 3 ≤ 1536) : wpX_drop (fun r u' => wpY_drop (fun r' v' => r' = r ∧ i_Rel (k + 3) u' v') v) u := by
  obtain ⟨n, b, c, hn, rfl, rfl⟩ := I
  unfold wpX_drop wpY_drop
  dsimp only
  rcases Nat.eq_zero_or_pos n with h | h
  · subst h
    exact br_t nI_0 (br_t nI_0 ⟨rfl, fs_rel hn⟩)
  · obtain ⟨q, rfl⟩ : ∃ q, n = q + 1 := ⟨n - 1, by omega⟩
    have h0 : ¬ nI (q + 1) = 0 := nI_ne0 h (by omega)
    refine br_f h0 (nm_r (nI_pred q) ⟨q + 1, ?_⟩)
    have e := fs_dr_0 b
    rw [← e]
    refine fs_drX (by omega) (br_f h0 ⟨q + 1, ?_⟩) q 0 (by omega)
    exact fs_drY (by omega) ⟨rfl, fs_rel (by omega)⟩ q 0 (by omega)
/-! the others -/
theorem i_vc_count {k : Nat} {u : SX} {v : SY} (I : i_Rel k u v) (hk : k + 3 ≤ 1536) (v1 : Int32) : wpX_count (fun r => wpY_count (fun r' v' => r' = r ∧ i_Rel (k + 3) u v') v v1) u v1 := by
  obtain ⟨n, b, c, hn, rfl, rfl⟩ := I
  unfold wpX_count wpY_count
  dsimp only
  rcases fs_set v1 with ⟨hX, hY⟩ | ⟨s, hs, rfl, hX, hY⟩
  · exact hX _ (br_t rfl (hY _ _ _ _ (br_t rfl ⟨rfl, fs_rel hn⟩)))
  · refine hX _ (br_f (by decide) (fs_countX hs hn (hY _ _ _ _ (br_f (by decide) (fs_allY hn (fun c' hc => ?_))))))
    exact ⟨vp_in_nI hs (by omega), fs_ct hc hs, fs_rel hn⟩
theorem i_vc_frequent {k : Nat} {u : SX} {v : SY} (I : i_Rel k u v) (hk : k + 3 ≤ 1536) (v1 : Int32) : wpX_frequent (fun r => wpY_frequent (fun r' v' => r' = r ∧ i_Rel (k + 3) u v') v v1) u v1 := by
  obtain ⟨n, b, c, hn, rfl, rfl⟩ := I
  unfold wpX_frequent wpY_frequent
  dsimp only
  rcases fs_lim v1 with ⟨hX, hY⟩ | ⟨m, hm0, hm, rfl, hX, hY⟩
  · exact hX _ (br_t rfl (hY _ _ _ _ (br_t rfl ⟨rfl, fs_rel hn⟩)))
  · refine hX _ (br_f (by decide) ⟨256, fs_frX (b := b) hn hm ?_ 255 1 (by omega) (by omega)⟩)
    refine hY _ _ _ _ (br_f (by decide) (fs_allY hn (fun c' hc => ?_)))
    exact ⟨256, fs_frY hn hm hc ⟨rfl, fs_rel hn⟩ 255 1 (by omega) (by omega)⟩
theorem i_vc_closed {k : Nat} {u : SX} {v : SY} (I : i_Rel k u v) (hk : k + 3 ≤ 1536) (v1 : Int32) : wpX_closed (fun r => wpY_closed (fun r' v' => r' = r ∧ i_Rel (k + 3) u v') v v1) u v1 := by
  obtain ⟨n, b, c, hn, rfl, rfl⟩ := I
  unfold wpX_closed wpY_closed
  dsimp only
  rcases fs_lim v1 with ⟨hX, hY⟩ | ⟨m, hm0, hm, rfl, hX, hY⟩
  · exact hX _ (br_t rfl (hY _ _ _ _ (br_t rfl ⟨rfl, fs_rel hn⟩)))
  · refine hX _ (br_f (by decide) ⟨256, fs_clX (b := b) hn hm ?_ 255 1 (by omega) (by omega)⟩)
    refine hY _ _ _ _ (br_f (by decide) (fs_allY hn (fun c' hc => ?_)))
    exact ⟨256, fs_clY hn hm0 hm hc ⟨rfl, fs_rel hn⟩ 255 1 (by omega) (by omega)⟩
theorem i_vc_largest {k : Nat} {u : SX} {v : SY} (I : i_Rel k u v) (hk : k + 3 ≤ 1536) (v1 : Int32) : wpX_largest (fun r => wpY_largest (fun r' v' => r' = r ∧ i_Rel (k + 3) u v') v v1) u v1 := by
  obtain ⟨n, b, c, hn, rfl, rfl⟩ := I
  unfold wpX_largest wpY_largest
  dsimp only
  rcases fs_lim v1 with ⟨hX, hY⟩ | ⟨m, hm0, hm, rfl, hX, hY⟩
  · exact hX _ (br_t rfl (hY _ _ _ _ (br_t rfl ⟨rfl, fs_rel hn⟩)))
  · refine hX _ (br_f (by decide) ⟨256, fs_laX (b := b) hn hm ?_ 255 1 (by omega) (by omega)⟩)
    refine hY _ _ _ _ (br_f (by decide) (fs_allY hn (fun c' hc => ?_)))
    exact ⟨256, fs_laY hn hm0 hm hc ⟨rfl, fs_rel hn⟩ 255 1 (by omega) (by omega)⟩
theorem i_vc_closedSet {k : Nat} {u : SX} {v : SY} (I : i_Rel k u v) (hk : k + 3 ≤ 1536) (v1 : Int32) (v2 : Int32) : wpX_closedSet (fun r => wpY_closedSet (fun r' v' => r' = r ∧ i_Rel (k + 3) u v') v v1 v2) u v1 v2 := by
  obtain ⟨n, b, c, hn, rfl, rfl⟩ := I
  unfold wpX_closedSet wpY_closedSet
  dsimp only
  rcases fs_lim v1 with ⟨hX, hY⟩ | ⟨m, hm0, hm, rfl, hX, hY⟩
  · exact hX _ (br_t rfl (hY _ _ _ _ (br_t rfl ⟨rfl, fs_rel hn⟩)))
  · refine hX _ (br_f (by decide) ⟨256, fs_csX (b := b) v2 hn hm 255 1 0 (by omega) ?_⟩)
    refine hY _ _ _ _ (br_f (by decide) (fs_allY hn (fun c' hc => ?_)))
    exact ⟨256, fs_csY v2 hn hm0 hm hc 255 1 0 (by omega) ⟨rfl, fs_rel hn⟩⟩
theorem i_vc_closure {k : Nat} {u : SX} {v : SY} (I : i_Rel k u v) (hk : k + 3 ≤ 1536) (v1 : Int32) : wpX_closure (fun r => wpY_closure (fun r' => r' = r ∧ i_Rel (k + 3) u v) v v1) u v1 := by
  obtain ⟨n, b, c, hn, rfl, rfl⟩ := I
  unfold wpX_closure wpY_closure
  dsimp only
  rcases fs_set v1 with ⟨hX, hY⟩ | ⟨s, hs, rfl, hX, hY⟩
  · exact hX _ (br_t rfl (hY _ _ _ _ (br_t rfl ⟨rfl, fs_rel hn⟩)))
  · have hl := fs_cn_le b s n
    refine hX _ (br_f (by decide) (fs_countX hs hn (pk_eq (fs_cn b s n) 0 (fun h => ?_) (fun h => ⟨n + 1, fs_cmX hs hn ?_ n 0 (by omega)⟩))))
    · exact hY _ _ _ _ (br_f (by decide) ⟨n + 1, fs_cmY hs hn (fun _ => ⟨rfl, fs_rel hn⟩) (fun z => absurd h z) n 0 (by omega)⟩)
    · exact hY _ _ _ _ (br_f (by decide) ⟨n + 1, fs_cmY hs hn (fun z => absurd z h) (fun _ => ⟨rfl, fs_rel hn⟩) n 0 (by omega)⟩)
theorem i_vc_widest {k : Nat} {u : SX} {v : SY} (I : i_Rel k u v) (hk : k + 3 ≤ 1536) (v1 : Int32) : wpX_widest (fun r => wpY_widest (fun r' v' => r' = r ∧ i_Rel (k + 3) u v') v v1) u v1 := by
  obtain ⟨n, b, c, hn, rfl, rfl⟩ := I
  unfold wpX_widest wpY_widest
  dsimp only
  rcases fs_lim v1 with ⟨hX, hY⟩ | ⟨m, hm0, hm, rfl, hX, hY⟩
  · exact hX _ (br_t rfl (hY _ _ _ _ (br_t rfl ⟨rfl, fs_rel hn⟩)))
  · refine hX _ (br_f (by decide) ⟨256, fs_wdX (b := b) hn hm ?_ 255 1 (by omega) (by omega)⟩)
    refine hY _ _ _ _ (br_f (by decide) (fs_allY hn (fun c' hc => ?_)))
    exact ⟨256, fs_wdY hn hm hc ⟨rfl, fs_rel hn⟩ 255 1 (by omega) (by omega)⟩
theorem i_vc_rules {k : Nat} {u : SX} {v : SY} (I : i_Rel k u v) (hk : k + 3 ≤ 1536) (v1 : Int32) (v2 : Int32) : wpX_rules (fun r => wpY_rules (fun r' v' => r' = r ∧ i_Rel (k + 3) u v') v v1 v2) u v1 v2 := by
  obtain ⟨n, b, c, hn, rfl, rfl⟩ := I
  unfold wpX_rules wpY_rules
  dsimp only
  rcases fs_lim v1 with ⟨hX, hY⟩ | ⟨m, hm0, hm, rfl, hX, hY⟩
  · exact hX _ (br_t rfl (hY _ _ _ _ (br_t rfl ⟨rfl, fs_rel hn⟩)))
  · by_cases h : v2 < 0
    · exact hX _ (br_f (by decide) (br_t h (hY _ _ _ _ (br_f (by decide) (br_t h ⟨rfl, fs_rel hn⟩)))))
    · by_cases h2 : v2 ≤ 100
      · obtain ⟨p, hp, rfl⟩ := nI_of2 (x := v2) (M := 100) (n := 100) (by decide) h h2
        refine hX _ (br_f (by decide) (br_f h (br_t h2 ⟨256, fs_ruX (b := b) hn hm hp ?_ 255 1 (by omega) (by omega)⟩)))
        refine hY _ _ _ _ (br_f (by decide) (br_f h (br_t h2 (fs_allY hn (fun c' hc => ?_)))))
        exact ⟨256, fs_r2Y hn hm hp hc ⟨congrArg nI (fs_rules b n m p).symm, fs_rel hn⟩ 255 1 (by omega) (by omega)⟩
      · exact hX _ (br_f (by decide) (br_f h (br_f h2 (hY _ _ _ _ (br_f (by decide) (br_f h (br_f h2 ⟨rfl, fs_rel hn⟩)))))))
theorem fs_255 : ∀ t, t < 8 → 255 ||| 2 ^ t = 255 := by decide
theorem i_vc_companion {k : Nat} {u : SX} {v : SY} (I : i_Rel k u v) (hk : k + 3 ≤ 1536) (v1 : Int32) : wpX_companion (fun r => wpY_companion (fun r' v' => r' = r ∧ i_Rel (k + 3) u v') v v1) u v1 := by
  obtain ⟨n, b, c, hn, rfl, rfl⟩ := I
  unfold wpX_companion wpY_companion
  dsimp only
  by_cases h : v1 < 0
  · exact br_t h (br_t rfl (br_t (Int32.lt_trans h (by decide)) ⟨rfl, fs_rel hn⟩))
  · by_cases h2 : 255 < v1
    · have h3 : ¬ v1 < 1 := Int32.lt_asymm (Int32.lt_trans (by decide : (1 : Int32) < 255) h2)
      exact br_f h (br_t h2 (br_t rfl (br_f h3 (br_f (Int32.not_le.mpr h2) ⟨rfl, fs_rel hn⟩))))
    · obtain ⟨s, hs, rfl⟩ := nI_of2 (x := v1) (M := 255) (n := 255) (by decide) h (Int32.not_lt.mp h2)
      have hs' : s < 256 := by omega
      have hl := fs_cn_le b s n
      refine br_f h (br_f h2 (br_f (by decide) (pk_eq s 0 (fun h0 => ?_) (fun h0 => ?_))))
      · subst h0
        exact br_t (by decide +kernel) ⟨rfl, fs_rel hn⟩
      · have h1 : ¬ nI s < 1 := nI_nlt (b := 1) (by omega) (by omega)
        have h3 : nI s ≤ 255 := Int32.not_lt.mp h2
        have hin : vp_in (nI s) 256 := vp_in_nI hs' (by omega)
        refine fs_countX hs' hn (pk_eq (fs_cn b s n) 0 (fun hz => ?_) (fun hz => ⟨9, fs_coX hn hs' ?_ 8 0 (by omega)⟩))
        · refine br_f h1 (br_t h3 (fs_allY hn (fun c' hc => ⟨hin, br_t ?_ ⟨rfl, fs_rel hn⟩⟩)))
          exact (fs_ct hc hs').trans ((congrArg nI hz).trans nI_0)
        · refine br_f h1 (br_t h3 (fs_allY hn (fun c' hc => ⟨hin, br_f ?_ (pk_eq s 255 (fun h5 => ?_) (fun h5 => ?_))⟩)))
          · exact fun z => nI_ne0 (by omega) (by omega) ((fs_ct hc hs').symm.trans z)
          · subst h5
            rw [(fs_bst_none 8).mpr fs_255]
            exact ⟨rfl, fs_rel hn⟩
          · refine ⟨9, fs_coY hn hs' hc ⟨?_, fs_rel hn⟩ 8 0 (by omega)⟩
            cases ho : fs_bst b n s 8 with
            | some j => rfl
            | none =>
              have hall := (fs_bst_none 8).mp ho
              have hin255 : s &&& 255 = s := by
                have := Nat.and_two_pow_sub_one_eq_mod s 8
                exact this.trans (Nat.mod_eq_of_lt hs')
              obtain ⟨t, ht, hne, _⟩ := fs_more (s := s) (x := 255) (by omega) (fun z => h5 z.symm) hin255
              exact absurd (hall t ht) hne
