/-! 02: a rule is told by its first and second set, or by its first set and both together: the two sums are one -/
def fs_l1 (f : Nat) : List Nat := ((List.range 256).filter (fun g => !(Nat.beq g 0) && Nat.beq (f &&& g) 0)).map (fun g => f ||| g)
def fs_l2 (f : Nat) : List Nat := (List.range 256).filter (fun g => Nat.blt f g && Nat.beq (f &&& g) f)
theorem fs_tab : ∀ f, f < 256 → fs_l1 f = fs_l2 f := by decide +kernel
/-- G: what is asked of first set and both -/
theorem fs_re (G : Nat → Bool) {f : Nat} (hf : f < 256) : fs_sum (fun g => if g = 0 then 0 else if f &&& g = 0 ∧ G (f ||| g) = true then 1 else 0) 256 = fs_sum (fun c => if f < c ∧ f &&& c = f ∧ G c = true then 1 else 0) 256 := by
  have e1 : fs_sum (fun g => if g = 0 then 0 else if f &&& g = 0 ∧ G (f ||| g) = true then 1 else 0) 256 = fs_sum (fun g => if (!(Nat.beq g 0) && Nat.beq (f &&& g) 0) = true then (fun c => if G c = true then 1 else 0) (f ||| g) else 0) 256 := by
    refine fs_sum_c _ (fun g _ => ?_)
    by_cases h0 : g = 0
    · subst h0
      rfl
    · have hb : Nat.beq g 0 = false := by
        cases hq : Nat.beq g 0
        · rfl
        · exact absurd (Nat.eq_of_beq_eq_true hq) h0
      rw [if_neg h0, hb]
      by_cases h1 : f &&& g = 0
      · have hc : Nat.beq (f &&& g) 0 = true := by rw [h1]; rfl
        rw [hc]
        simp [h1]
      · have hc : Nat.beq (f &&& g) 0 = false := by
          cases hq : Nat.beq (f &&& g) 0
          · rfl
          · exact absurd (Nat.eq_of_beq_eq_true hq) h1
        rw [hc]
        simp [h1]
  have e2 : fs_sum (fun c => if f < c ∧ f &&& c = f ∧ G c = true then 1 else 0) 256 = fs_sum (fun c => if (Nat.blt f c && Nat.beq (f &&& c) f) = true then (fun c => if G c = true then 1 else 0) c else 0) 256 := by
    refine fs_sum_c _ (fun c _ => ?_)
    have hb : Nat.blt f c = true ↔ f < c := iff_of_eq Nat.blt_eq
    have hc : Nat.beq (f &&& c) f = true ↔ f &&& c = f := iff_of_eq Nat.beq_eq
    simp only [Bool.and_eq_true, hb, hc]
    by_cases h1 : f < c <;> by_cases h2 : f &&& c = f <;> simp [h1, h2]
  rw [e1, e2, fs_sum_list, fs_sum_list (fun c => Nat.blt f c && Nat.beq (f &&& c) f) (fun c => if G c = true then 1 else 0)]
  have e3 := fs_tab f hf
  unfold fs_l1 fs_l2 at e3
  rw [← e3, List.map_map]
  rfl
/-- the component's inner sum for both together -/
def fs_F (b : Nat → Nat) (n p both : Nat) : Nat → Nat := fun f => if f = 0 then 0 else if f &&& both = f ∧ p * fs_cn b f n ≤ fs_cn b both n * 100 then 1 else 0
def fs_Gx (b : Nat → Nat) (n m p : Nat) : Nat → Nat := fun both => if both = 0 then 0 else if m ≤ fs_cn b both n then fs_sum (fs_F b n p both) both else 0
/-- the reference's inner sum for a first set -/
def fs_H (b : Nat → Nat) (n m p f : Nat) : Nat → Nat := fun g => if g = 0 then 0 else if f &&& g = 0 ∧ (decide (m ≤ fs_cn b (f ||| g) n) && decide (p * fs_cn b f n ≤ 100 * fs_cn b (f ||| g) n)) = true then 1 else 0
def fs_Gy (b : Nat → Nat) (n m p : Nat) : Nat → Nat := fun f => if f = 0 then 0 else fs_sum (fs_H b n m p f) 256
def fs_K (b : Nat → Nat) (n m p f both : Nat) : Nat := if f = 0 then 0 else if f < both ∧ f &&& both = f ∧ (decide (m ≤ fs_cn b both n) && decide (p * fs_cn b f n ≤ 100 * fs_cn b both n)) = true then 1 else 0
theorem fs_Gx_K (b : Nat → Nat) (n m p : Nat) {both : Nat} (hb : both < 256) : fs_Gx b n m p both = fs_sum (fun f => fs_K b n m p f both) 256 := by
  unfold fs_Gx
  by_cases h0 : both = 0
  · subst h0
    refine (if_pos rfl).trans ((fs_sum_0 256).symm.trans ?_)
    refine fs_sum_c _ (fun f _ => ?_)
    unfold fs_K
    simp
  · rw [if_neg h0]
    by_cases h1 : m ≤ fs_cn b both n
    · rw [if_pos h1, ← fs_sum_cut (fs_F b n p both) both 256 (by omega)]
      refine fs_sum_c _ (fun f _ => ?_)
      unfold fs_F fs_K
      rw [Nat.mul_comm (fs_cn b both n) 100]
      by_cases h2 : f = 0
      · simp [h2]
      · by_cases h3 : f < both <;> simp [h1, h2, h3]
    · refine (if_neg h1).trans ((fs_sum_0 256).symm.trans ?_)
      refine fs_sum_c _ (fun f _ => ?_)
      unfold fs_K
      simp [h1]
theorem fs_Gy_K (b : Nat → Nat) (n m p : Nat) {f : Nat} (hf : f < 256) : fs_Gy b n m p f = fs_sum (fun both => fs_K b n m p f both) 256 := by
  unfold fs_Gy
  by_cases h0 : f = 0
  · subst h0
    refine (if_pos rfl).trans ((fs_sum_0 256).symm.trans ?_)
    exact fs_sum_c _ (fun _ _ => rfl)
  · rw [if_neg h0]
    have e := fs_re (fun c => decide (m ≤ fs_cn b c n) && decide (p * fs_cn b f n ≤ 100 * fs_cn b c n)) hf
    refine (Eq.trans ?_ e).trans ?_
    · rfl
    · refine fs_sum_c _ (fun c _ => ?_)
      unfold fs_K
      rw [if_neg h0]
theorem fs_rules (b : Nat → Nat) (n m p : Nat) : fs_sum (fs_Gx b n m p) 256 = fs_sum (fs_Gy b n m p) 256 := by
  rw [fs_sum_c 256 (fun both hb => fs_Gx_K b n m p hb), fs_sum_c (f := fs_Gy b n m p) 256 (fun f hf => fs_Gy_K b n m p hf)]
  exact fs_sum_swap (fun both f => fs_K b n m p f both) 256 256
