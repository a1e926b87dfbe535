/-! Counting (from the rows given for pasting). -/
theorem fb_holes : ∀ (m n : Nat) (f : Nat → Nat), (∀ i, i < n → f i < m) → (∀ i j, i < j → j < n → f i ≠ f j) → n ≤ m := by
  intro m
  induction m with
  | zero =>
    intro n f h1 _
    rcases Nat.eq_zero_or_pos n with h | h
    · omega
    · exact absurd (h1 0 h) (Nat.not_lt_zero _)
  | succ m ih =>
    intro n f h1 h2
    by_cases hx : ∃ i, i < n ∧ f i = m
    · obtain ⟨a, ha, hfa⟩ := hx
      have hg := ih (n - 1) (fun i => if i < a then f i else f (i + 1)) (by
        intro i hi
        by_cases q : i < a
        · simp only [if_pos q]
          have b1 := h1 i (by omega)
          have b2 := h2 i a q ha
          omega
        · simp only [if_neg q]
          have b1 := h1 (i + 1) (by omega)
          have b2 := h2 a (i + 1) (by omega) (by omega)
          omega) (by
        intro i j hij hj
        by_cases q : i < a
        · by_cases r : j < a
          · simp only [if_pos q, if_pos r]
            exact h2 i j hij (by omega)
          · simp only [if_pos q, if_neg r]
            exact h2 i (j + 1) (by omega) (by omega)
        · have r : ¬ j < a := by omega
          simp only [if_neg q, if_neg r]
          exact h2 (i + 1) (j + 1) (by omega) (by omega))
      omega
    · have hg := ih n f (fun i hi => by
        have b1 := h1 i hi
        have b2 : f i ≠ m := fun e => hx ⟨i, hi, e⟩
        omega) h2
      omega
/-- two of them in one place -/
theorem fb_twice {m n : Nat} {f : Nat → Nat} (h : ∀ i, i < n → f i < m) (hm : m < n) : ∃ i j, i < j ∧ j < n ∧ f i = f j := by
  refine Classical.byContradiction fun hx => ?_
  have := fb_holes m n f h (fun i j hij hj e => hx ⟨i, j, hij, hj, e⟩)
  omega
/-- as many as places, none twice: each place is taken -/
theorem fb_onto {n : Nat} {f : Nat → Nat} (h : ∀ i, i < n → f i < n) (h2 : ∀ i j, i < j → j < n → f i ≠ f j) {y : Nat} (hy : y < n) : ∃ i, i < n ∧ f i = y := by
  refine Classical.byContradiction fun hx => ?_
  have hne : ∀ i, i < n → f i ≠ y := fun i hi e => hx ⟨i, hi, e⟩
  have := fb_holes (n - 1) n (fun i => if f i < y then f i else f i - 1) (by
    intro i hi
    have b1 := h i hi
    have b2 := hne i hi
    by_cases q : f i < y
    · simp only [if_pos q]; omega
    · simp only [if_neg q]; omega) (by
    intro i j hij hj
    have b1 := hne i (by omega)
    have b2 := hne j hj
    have b3 := h2 i j hij hj
    by_cases q : f i < y
    · by_cases r : f j < y
      · simp only [if_pos q, if_pos r]; exact b3
      · simp only [if_pos q, if_neg r]; omega
    · by_cases r : f j < y
      · simp only [if_neg q, if_pos r]; omega
      · simp only [if_neg q, if_neg r]; omega)
  omega
/-! ===== how many places have a property ===== -/
def fb_ct (p : Nat → Bool) : Nat → Nat
  | 0 => 0
  | n + 1 => fb_ct p n + (if p n then 1 else 0)
theorem fb_ct_succ (p : Nat → Bool) (n : Nat) : fb_ct p (n + 1) = fb_ct p n + (if p n then 1 else 0) := rfl
theorem fb_ct_le (p : Nat → Bool) : ∀ n, fb_ct p n ≤ n
  | 0 => Nat.le_refl _
  | n + 1 => by
    have h := fb_ct_le p n
    rw [fb_ct_succ]
    split <;> omega
theorem fb_ct_step (p : Nat → Bool) (m : Nat) : ∀ n, fb_ct p m ≤ fb_ct p (m + n)
  | 0 => Nat.le_refl _
  | n + 1 => by
    have h := fb_ct_step p m n
    show fb_ct p m ≤ fb_ct p (m + n + 1)
    rw [fb_ct_succ]
    omega
theorem fb_ct_mono (p : Nat → Bool) {m n : Nat} (h : m ≤ n) : fb_ct p m ≤ fb_ct p n := by
  have := fb_ct_step p m (n - m)
  rwa [Nat.add_sub_cancel' h] at this
theorem fb_ct_cong {p q : Nat → Bool} : ∀ {n : Nat}, (∀ k, k < n → p k = q k) → fb_ct p n = fb_ct q n
  | 0, _ => rfl
  | n + 1, h => by
    rw [fb_ct_succ, fb_ct_succ, fb_ct_cong (fun k hk => h k (by omega)), h n (by omega)]
/-- one place changed -/
theorem fb_ct_out (p : Nat → Bool) (b : Bool) {i n : Nat} (h : n ≤ i) : fb_ct (fun k => if k = i then b else p k) n = fb_ct p n :=
  fb_ct_cong fun k hk => if_neg (by omega)
theorem fb_ct_upd (p : Nat → Bool) (b : Bool) {i : Nat} : ∀ {n : Nat}, i < n → fb_ct (fun k => if k = i then b else p k) n + (if p i then 1 else 0) = fb_ct p n + (if b then 1 else 0)
  | 0, h => absurd h (Nat.not_lt_zero i)
  | n + 1, h => by
    rw [fb_ct_succ, fb_ct_succ]
    rcases Nat.lt_or_ge i n with q | q
    · have := fb_ct_upd p b q
      have e : (if n = i then b else p n) = p n := if_neg (by omega)
      rw [e]
      omega
    · have e : i = n := by omega
      subst e
      rw [fb_ct_out p b (Nat.le_refl _)]
      simp only [if_true]
      omega
theorem fb_ct_sub {p q : Nat → Bool} : ∀ {n : Nat}, (∀ k, k < n → p k = true → q k = true) → fb_ct p n ≤ fb_ct q n
  | 0, _ => Nat.le_refl _
  | n + 1, h => by
    have h1 := fb_ct_sub (n := n) (p := p) (q := q) (fun k hk => h k (by omega))
    have h2 := h n (by omega)
    rw [fb_ct_succ, fb_ct_succ]
    cases hp : p n <;> cases hq : q n <;> simp_all <;> omega
theorem fb_ct_or {p q : Nat → Bool} : ∀ {n : Nat}, (∀ k, k < n → ¬ (p k = true ∧ q k = true)) → fb_ct (fun k => p k || q k) n = fb_ct p n + fb_ct q n
  | 0, _ => rfl
  | n + 1, h => by
    have h1 := fb_ct_or (n := n) (p := p) (q := q) (fun k hk => h k (by omega))
    have h2 := h n (by omega)
    rw [fb_ct_succ, fb_ct_succ, fb_ct_succ, h1]
    cases hp : p n <;> cases hq : q n <;> simp_all <;> omega
theorem fb_ct_not (p : Nat → Bool) : ∀ n, fb_ct p n + fb_ct (fun k => !p k) n = n
  | 0 => rfl
  | n + 1 => by
    have h := fb_ct_not p n
    rw [fb_ct_succ, fb_ct_succ]
    cases p n <;> simp <;> omega
theorem fb_ct_split (p : Nat → Bool) (m : Nat) : ∀ n, fb_ct p (m + n) = fb_ct p m + fb_ct (fun k => p (m + k)) n
  | 0 => rfl
  | n + 1 => by
    have h := fb_ct_split p m n
    show fb_ct p (m + n + 1) = _
    rw [fb_ct_succ, fb_ct_succ, h, Nat.add_assoc]
theorem fb_ct_zero {p : Nat → Bool} : ∀ {n : Nat}, fb_ct p n = 0 ↔ ∀ k, k < n → p k = false
  | 0 => ⟨fun _ k hk => absurd hk (Nat.not_lt_zero k), fun _ => rfl⟩
  | n + 1 => by
    have h := fb_ct_zero (p := p) (n := n)
    rw [fb_ct_succ]
    constructor
    · intro e k hk
      have e1 : fb_ct p n = 0 := by omega
      rcases Nat.lt_or_ge k n with q | q
      · exact h.mp e1 k q
      · have ek : k = n := by omega
        subst ek
        cases hp : p k
        · rfl
        · simp [hp] at e
    · intro a
      rw [h.mpr (fun k hk => a k (by omega)), a n (by omega)]
      rfl
theorem fb_ct_pos {p : Nat → Bool} {n : Nat} : 0 < fb_ct p n ↔ ∃ k, k < n ∧ p k = true := by
  constructor
  · intro h
    refine Classical.byContradiction fun hx => ?_
    have := fb_ct_zero.mpr (fun k hk => by
      cases hp : p k
      · rfl
      · exact absurd ⟨k, hk, hp⟩ hx : ∀ k, k < n → p k = false)
    omega
  · rintro ⟨k, hk, hp⟩
    rcases Nat.eq_zero_or_pos (fb_ct p n) with e | e
    · have := fb_ct_zero.mp e k hk
      rw [this] at hp
      cases hp
    · exact e
theorem fb_ct_all {p : Nat → Bool} {n : Nat} : fb_ct p n = n ↔ ∀ k, k < n → p k = true := by
  have h := fb_ct_not p n
  constructor
  · intro e k hk
    have z : fb_ct (fun k => !p k) n = 0 := by omega
    have := fb_ct_zero.mp z k hk
    cases hp : p k
    · simp [hp] at this
    · rfl
  · intro a
    have z : fb_ct (fun k => !p k) n = 0 := fb_ct_zero.mpr (fun k hk => by simp [a k hk])
    omega
/-- the k-th place with the property -/
theorem fb_ct_kth {p : Nat → Bool} {k : Nat} : ∀ {n : Nat}, k < fb_ct p n → ∃ i, i < n ∧ p i = true ∧ fb_ct p i = k
  | 0, h => absurd h (Nat.not_lt_zero k)
  | n + 1, h => by
    rcases Nat.lt_or_ge k (fb_ct p n) with q | q
    · obtain ⟨i, h1, h2⟩ := fb_ct_kth q
      exact ⟨i, by omega, h2⟩
    · rw [fb_ct_succ] at h
      cases hp : p n
      · simp [hp] at h; omega
      · simp [hp] at h
        exact ⟨n, by omega, hp, by omega⟩
theorem fb_ct_kth_one {p : Nat → Bool} {i j : Nat} (hi : p i = true) (hj : p j = true) (e : fb_ct p i = fb_ct p j) : i = j := by
  have key : ∀ a b : Nat, a < b → p a = true → fb_ct p a < fb_ct p b := by
    intro a b hab ha
    have h := fb_ct_mono p (show a + 1 ≤ b from hab)
    rw [fb_ct_succ, ha] at h
    simp at h
    omega
  rcases Nat.lt_trichotomy i j with q | q | q
  · have := key i j q hi; omega
  · exact q
  · have := key j i q hj; omega
/-! Permutations: going on and on. -/
def it (f : Nat → Nat) : Nat → Nat → Nat
  | 0, s => s
  | k + 1, s => f (it f k s)
theorem it_add (f : Nat → Nat) : ∀ a b s, it f (a + b) s = it f a (it f b s)
  | 0, b, s => by rw [Nat.zero_add, it]
  | a + 1, b, s => by rw [show a + 1 + b = a + b + 1 by omega, it, it, it_add f a b s]
theorem it_f (f : Nat → Nat) (k s : Nat) : it f k (f s) = it f (k + 1) s := by
  rw [it_add f k 1 s]
  rfl
theorem it_cong {f g : Nat → Nat} {n : Nat} (hf : ∀ s, s < n → f s < n) (h : ∀ s, s < n → f s = g s) : ∀ k {s : Nat}, s < n → it f k s = it g k s ∧ it f k s < n
  | 0, s, hs => ⟨rfl, hs⟩
  | k + 1, s, hs => by
    obtain ⟨a, b⟩ := it_cong hf h k hs
    rw [it, it, ← a]
    exact ⟨h _ b, hf _ b⟩
section PRM
variable {f g : Nat → Nat} {n : Nat}
theorem it_lt (hf : ∀ s, s < n → f s < n) (k : Nat) {s : Nat} (hs : s < n) : it f k s < n := (it_cong (g := f) hf (fun _ _ => rfl) k hs).2
theorem it_inj (hf : ∀ s, s < n → f s < n) (hi : ∀ s t, s < n → t < n → f s = f t → s = t) : ∀ k {s t : Nat}, s < n → t < n → it f k s = it f k t → s = t
  | 0, s, t, _, _, e => e
  | k + 1, s, t, hs, ht, e => it_inj hf hi k hs ht (hi _ _ (it_lt hf k hs) (it_lt hf k ht) e)
/-- how many steps till a place is reached again -/
def cyc (f : Nat → Nat) (n s : Nat) : Nat := 1 + fst (fun k => it f (k + 1) s == s) n
theorem cyc_pos (f : Nat → Nat) (n s : Nat) : 0 < cyc f n s := by
  unfold cyc
  omega
theorem cyc_fst (hf : ∀ s, s < n → f s < n) (hi : ∀ s t, s < n → t < n → f s = f t → s = t) {s : Nat} (hs : s < n) : fst (fun k => it f (k + 1) s == s) n < n := by
  obtain ⟨i, j, h1, h2, h3⟩ := fb_twice (m := n) (n := n + 1) (f := fun k => it f k s) (fun k _ => it_lt hf k hs) (by omega)
  have h4 : it f (j - i) s = s := by
    have e : it f j s = it f i (it f (j - i) s) := by rw [← it_add]; congr 1; omega
    exact (it_inj hf hi i hs (it_lt hf _ hs) (h3.trans e)).symm
  have a := fst_le (fun k => it f (k + 1) s == s) n
  by_cases h : fst (fun k => it f (k + 1) s == s) n < n
  · exact h
  · have := fst_no (fun k => it f (k + 1) s == s) n (j - i - 1) (by omega)
    rw [show j - i - 1 + 1 = j - i by omega, h4] at this
    simp at this
theorem cyc_le (hf : ∀ s, s < n → f s < n) (hi : ∀ s t, s < n → t < n → f s = f t → s = t) {s : Nat} (hs : s < n) : cyc f n s ≤ n := by
  have := cyc_fst hf hi hs
  unfold cyc
  omega
theorem cyc_it (hf : ∀ s, s < n → f s < n) (hi : ∀ s t, s < n → t < n → f s = f t → s = t) {s : Nat} (hs : s < n) : it f (cyc f n s) s = s := by
  have := fst_yes _ n (cyc_fst hf hi hs)
  rw [cyc, Nat.add_comm]
  simpa using this
theorem cyc_no {s m : Nat} (h0 : 0 < m) (h : m < cyc f n s) : it f m s ≠ s := by
  unfold cyc at h
  have := fst_no (fun k => it f (k + 1) s == s) n (m - 1) (by omega)
  rw [show m - 1 + 1 = m by omega] at this
  simpa using this
/-- what has these two marks is the cycle -/
theorem cyc_eq (hf : ∀ s, s < n → f s < n) (hi : ∀ s t, s < n → t < n → f s = f t → s = t) {s m : Nat} (hs : s < n) (h0 : 0 < m) (h1 : it f m s = s) (h2 : ∀ k, 0 < k → k < m → it f k s ≠ s) : cyc f n s = m := by
  rcases Nat.lt_trichotomy (cyc f n s) m with h | h | h
  · exact absurd (cyc_it hf hi hs) (h2 _ (cyc_pos f n s) h)
  · exact h
  · exact absurd h1 (cyc_no h0 h)
theorem it_mul (hf : ∀ s, s < n → f s < n) (hi : ∀ s t, s < n → t < n → f s = f t → s = t) {s : Nat} (hs : s < n) : ∀ q, it f (cyc f n s * q) s = s
  | 0 => rfl
  | q + 1 => by rw [Nat.mul_succ, it_add, cyc_it hf hi hs, it_mul hf hi hs q]
theorem it_mod (hf : ∀ s, s < n → f s < n) (hi : ∀ s t, s < n → t < n → f s = f t → s = t) {s : Nat} (hs : s < n) (k : Nat) : it f k s = it f (k % cyc f n s) s := by
  have h := Nat.mod_add_div k (cyc f n s)
  have h2 : it f (k % cyc f n s + cyc f n s * (k / cyc f n s)) s = it f (k % cyc f n s) s := by rw [it_add, it_mul hf hi hs]
  rw [h] at h2
  exact h2
theorem it_eq (hf : ∀ s, s < n → f s < n) (hi : ∀ s t, s < n → t < n → f s = f t → s = t) {s : Nat} (hs : s < n) (a b : Nat) : it f a s = it f b s ↔ a % cyc f n s = b % cyc f n s := by
  constructor
  · intro h
    rw [it_mod hf hi hs a, it_mod hf hi hs b] at h
    have ha := Nat.mod_lt a (cyc_pos f n s)
    have hb := Nat.mod_lt b (cyc_pos f n s)
    have key : ∀ x y : Nat, x < cyc f n s → y < cyc f n s → x < y → it f x s ≠ it f y s := by
      intro x y hx hy hxy e
      have e2 : it f y s = it f x (it f (y - x) s) := by rw [← it_add]; congr 1; omega
      have e3 := it_inj hf hi x hs (it_lt hf _ hs) (e.trans e2)
      exact cyc_no (f := f) (n := n) (by omega) (by omega) e3.symm
    rcases Nat.lt_trichotomy (a % cyc f n s) (b % cyc f n s) with q | q | q
    · exact absurd h (key _ _ ha hb q)
    · exact q
    · exact absurd h.symm (key _ _ hb ha q)
  · intro h
    rw [it_mod hf hi hs a, it_mod hf hi hs b, h]
/-- where one comes by so many steps, ahead or back -/
def ah (f : Nat → Nat) (n s : Nat) (z : Int) : Nat := it f (z % (cyc f n s : Int)).toNat s
theorem ah_lt (hf : ∀ s, s < n → f s < n) {s : Nat} (hs : s < n) (z : Int) : ah f n s z < n := it_lt hf _ hs
theorem ah_nat (hf : ∀ s, s < n → f s < n) (hi : ∀ s t, s < n → t < n → f s = f t → s = t) {s : Nat} (hs : s < n) (k : Nat) : ah f n s k = it f k s := by
  unfold ah
  rw [it_mod hf hi hs k]
  congr 1
theorem it_back (hf : ∀ s, s < n → f s < n) (hg : ∀ s, s < n → g (f s) = s) : ∀ k {s : Nat}, s < n → it g k (it f k s) = s
  | 0, s, hs => rfl
  | k + 1, s, hs => by
    rw [← it_f g, it, hg _ (it_lt hf k hs)]
    exact it_back hf hg k hs
theorem ah_neg (hf : ∀ s, s < n → f s < n) (hi : ∀ s t, s < n → t < n → f s = f t → s = t) (hg : ∀ s, s < n → g (f s) = s) {s : Nat} (hs : s < n) (k : Nat) : ah f n s (-(k : Int)) = it g k s := by
  have hc := cyc_pos f n s
  have h1 : it f k (ah f n s (-(k : Int))) = s := by
    unfold ah
    rw [← it_add, it_mod hf hi hs]
    have : (k + (-(k : Int) % (cyc f n s : Int)).toNat) % cyc f n s = 0 := by
      have h2 : 0 ≤ -(k : Int) % (cyc f n s : Int) := Int.emod_nonneg _ (by omega)
      have h3 : ((k + (-(k : Int) % (cyc f n s : Int)).toNat : Nat) : Int) % (cyc f n s : Int) = 0 := by
        rw [Int.natCast_add, Int.toNat_of_nonneg h2, Int.add_emod, Int.emod_emod_of_dvd _ (Int.dvd_refl _), ← Int.add_emod]
        rw [Int.add_right_neg, Int.zero_emod]
      have h4 : (((k + (-(k : Int) % (cyc f n s : Int)).toNat) % cyc f n s : Nat) : Int) = 0 := by rw [Int.natCast_emod]; exact h3
      exact Int.ofNat_eq_zero.mp h4
    rw [this]
    rfl
  have h2 := it_back hf hg k (ah_lt hf hs (-(k : Int)))
  rw [h1] at h2
  exact h2.symm
theorem cyc_same (hf : ∀ s, s < n → f s < n) (hi : ∀ s t, s < n → t < n → f s = f t → s = t) {s : Nat} (hs : s < n) (k : Nat) : cyc f n (it f k s) = cyc f n s := by
  refine cyc_eq hf hi (it_lt hf k hs) (cyc_pos f n s) ?_ (fun m h0 h1 e => ?_)
  · rw [← it_add, Nat.add_comm, it_add, cyc_it hf hi hs]
  · rw [← it_add, Nat.add_comm, it_add] at e
    exact cyc_no h0 h1 (it_inj hf hi k (it_lt hf m hs) hs e)
/-- a permutation takes every value -/
theorem prm_onto (hf : ∀ s, s < n → f s < n) (hi : ∀ s t, s < n → t < n → f s = f t → s = t) {t : Nat} (ht : t < n) : ∃ s, s < n ∧ f s = t :=
  fb_onto hf (fun i j h1 h2 e => by have := hi i j (by omega) h2 e; omega) ht
end PRM
/-- a round's going on: each place of the list to that b further -/
def nx (l : List Nat) (b s : Nat) : Nat := if s ∈ l then l.getD ((l.idxOf s + b) % l.length) 0 else s
theorem nx_at {l : List Nat} (hl : l.Nodup) {k b : Nat} (hk : k < l.length) : nx l b (l.getD k 0) = l.getD ((k + b) % l.length) 0 := by
  have e : l.getD k 0 = l[k] := by simp [List.getD, hk]
  unfold nx
  rw [e, if_pos (List.getElem_mem hk), hl.idxOf_getElem k hk]
theorem nx_out {l : List Nat} {b s : Nat} (h : ¬ s ∈ l) : nx l b s = s := if_neg h
theorem nx_lt {l : List Nat} {n : Nat} (hl : ∀ x, x ∈ l → x < n) {b s : Nat} (hs : s < n) : nx l b s < n := by
  unfold nx
  split
  · rename_i h
    have h1 : 0 < l.length := List.length_pos_of_mem h
    have h2 := Nat.mod_lt (l.idxOf s + b) h1
    have e : l.getD ((l.idxOf s + b) % l.length) 0 = l[(l.idxOf s + b) % l.length] := by simp [List.getD, h2]
    rw [e]
    exact hl _ (List.getElem_mem h2)
  · exact hs
theorem nx_inj {l : List Nat} (hl : l.Nodup) {b s t : Nat} (e : nx l b s = nx l b t) : s = t := by
  have at_ : ∀ x, x ∈ l → ∃ k, k < l.length ∧ l.getD k 0 = x := by
    intro x hx
    obtain ⟨k, hk, e⟩ := List.getElem_of_mem hx
    exact ⟨k, hk, by simp [List.getD, hk, e]⟩
  have mem : ∀ x, x ∈ l → nx l b x ∈ l := by
    intro x hx
    obtain ⟨k, hk, rfl⟩ := at_ x hx
    rw [nx_at hl hk]
    have h2 := Nat.mod_lt (k + b) (by omega : 0 < l.length)
    have e : l.getD ((k + b) % l.length) 0 = l[(k + b) % l.length] := by simp [List.getD, h2]
    rw [e]
    exact List.getElem_mem h2
  by_cases hs : s ∈ l
  · by_cases ht : t ∈ l
    · obtain ⟨j, hj, rfl⟩ := at_ s hs
      obtain ⟨k, hk, rfl⟩ := at_ t ht
      rw [nx_at hl hj, nx_at hl hk] at e
      have hj2 := Nat.mod_lt (j + b) (by omega : 0 < l.length)
      have hk2 := Nat.mod_lt (k + b) (by omega : 0 < l.length)
      have e1 : l[(j + b) % l.length] = l[(k + b) % l.length] := by simpa [List.getD, hj2, hk2] using e
      have e2 : (j + b) % l.length = (k + b) % l.length := (List.getElem_inj hl).mp e1
      have e3 : j = k := by
        have a := Nat.sub_mod_eq_zero_of_mod_eq e2
        have c := Nat.sub_mod_eq_zero_of_mod_eq e2.symm
        rw [Nat.mod_eq_of_lt (by omega)] at a c
        omega
      rw [e3]
    · rw [nx_out ht] at e
      exact absurd (e ▸ mem s hs) ht
  · by_cases ht : t ∈ l
    · rw [nx_out hs] at e
      exact absurd (e ▸ mem t ht) hs
    · rwa [nx_out hs, nx_out ht] at e
/-- the rounds one behind the other -/
def tof (ls : Nat → List Nat) (b : Nat → Nat) : Nat → Nat → Nat
  | 0, s => s
  | r + 1, s => nx (ls r) (b r) (tof ls b r s)
theorem tof_lt {ls : Nat → List Nat} {b : Nat → Nat} {n : Nat} : ∀ {m : Nat}, (∀ r, r < m → ∀ x, x ∈ ls r → x < n) → ∀ {s : Nat}, s < n → tof ls b m s < n
  | 0, _, s, hs => hs
  | m + 1, h, s, hs => nx_lt (h m (by omega)) (tof_lt (fun r hr => h r (by omega)) hs)
theorem tof_inj {ls : Nat → List Nat} {b : Nat → Nat} : ∀ {m : Nat}, (∀ r, r < m → (ls r).Nodup) → ∀ {s t : Nat}, tof ls b m s = tof ls b m t → s = t
  | 0, _, s, t, e => e
  | m + 1, h, s, t, e => tof_inj (fun r hr => h r (by omega)) (nx_inj (h m (by omega)) e)
