section
theorem pk_us {f : Nat → Int32} {k : Nat} {x : Int32} : upd f k x k = x := if_pos rfl
theorem pk_un {f : Nat → Int32} {k j : Nat} {x : Int32} (h : j ≠ k) : upd f k x j = f j := if_neg h
theorem pk_sub {a b : Nat} (h : b ≤ a) : nI a - nI b = nI (a - b) := by
  obtain ⟨c, rfl⟩ : ∃ c, a = c + b := ⟨a - b, by omega⟩
  rw [← nI_add, Int32.add_sub_cancel, Nat.add_sub_cancel]
theorem pk_m1 (n : Nat) : nI (n + 1) + (-1) = nI n := by
  rw [← nI_1, Int32.add_assoc, show (1 : Int32) + (-1) = 0 from rfl, Int32.add_zero]
theorem pk_mul (a b : Nat) : nI a * nI b = nI (a * b) := (Int32.ofNat_mul a b).symm
theorem pk_div {a d : Nat} (ha : a < 2 ^ 31) (h0 : 0 < d) (hd : d < 2 ^ 31) : nI a / nI d = nI (a / d) := by
  apply Int32.toInt_inj.mp
  rw [lg_idiv_nonneg (by rw [nI_toInt ha]; omega) (by rw [nI_toInt hd]; omega), nI_toInt ha, nI_toInt hd, nI_toInt (Nat.lt_of_le_of_lt (Nat.div_le_self a d) ha)]
  first | rfl | exact (Int.natCast_ediv _ _).symm
theorem pk_rem {a d : Nat} (ha : a < 2 ^ 31) (h0 : 0 < d) (hd : d < 2 ^ 31) : nI a - nI a / nI d * nI d = nI (a % d) := by
  rw [pk_div ha h0 hd, pk_mul, pk_sub (Nat.div_mul_le_self a d)]
  exact congrArg nI (by have := Nat.div_add_mod' a d; omega)
theorem pk_ix (x : Int32) {n : Nat} (hn : n < 2 ^ 31) : x < 0 ∨ nI n ≤ x ∨ ∃ j : Nat, j < n ∧ x = nI j := by
  by_cases h : x < 0
  · exact Or.inl h
  · obtain ⟨j, hj, rfl⟩ := nI_of h
    by_cases h2 : j < n
    · exact Or.inr (Or.inr ⟨j, h2, rfl⟩)
    · exact Or.inr (Or.inl (nI_le (by omega) hj))
theorem pk_le {x y : Int32} {A B : Prop} (a b : Nat) (f : a ≤ b → A) (g : b < a → B) (hx : x = nI a := by rfl) (hy : y = nI b := by rfl) (ha : a < 2 ^ 31 := by omega) (hb : b < 2 ^ 31 := by omega) : (x ≤ y → A) ∧ (¬ x ≤ y → B) := by
  subst hx hy
  rw [nI_leI ha hb]
  exact ⟨f, fun z => g (by omega)⟩
theorem pk_lt {x y : Int32} {A B : Prop} (a b : Nat) (f : a < b → A) (g : b ≤ a → B) (hx : x = nI a := by rfl) (hy : y = nI b := by rfl) (ha : a < 2 ^ 31 := by omega) (hb : b < 2 ^ 31 := by omega) : (x < y → A) ∧ (¬ x < y → B) := by
  subst hx hy
  rw [nI_ltI ha hb]
  exact ⟨f, fun z => g (by omega)⟩
theorem pk_eq {x y : Int32} {A B : Prop} (a b : Nat) (f : a = b → A) (g : a ≠ b → B) (hx : x = nI a := by rfl) (hy : y = nI b := by rfl) (ha : a < 2 ^ 31 := by omega) (hb : b < 2 ^ 31 := by omega) : (x = y → A) ∧ (¬ x = y → B) := by
  subst hx hy
  rw [nI_eq ha hb]
  exact ⟨f, g⟩
theorem pk_in {x : Int32} (n N : Nat) (h : n < N) (hx : x = nI n := by rfl) (hN : N < 2 ^ 31 := by omega) : vp_in x N := by
  subst hx
  exact vp_in_nI h hN
theorem pk_cl {x : Int32} (n : Nat) (hx : x = nI n := by rfl) (h : n < 2 ^ 31 := by omega) : x.toNatClampNeg = n := by
  subst hx
  exact nI_clamp h
theorem pk_loop {σ : Type} (W : Nat → Nat → σ → Prop) (I : Nat → σ → Prop) (e i0 : Nat) (s : σ) (hi : i0 ≤ e) (h0 : I i0 s) (hx : ∀ n s, I e s → W (n + 1) e s)
    (hs : ∀ n i s, i < e → I i s → (∀ s', I (i + 1) s' → W n (i + 1) s') → W (n + 1) i s) : ∃ n, W n i0 s :=
  ⟨e + 1, loop_i W I e hx hs (e + 1) i0 s hi (by omega) h0⟩
/-! truths as ints -/
noncomputable def pb_of (p : Prop) : Int32 := @ite Int32 p (Classical.propDecidable p) 1 0
theorem pb_t {p : Prop} (h : p) : pb_of p = 1 := by
  unfold pb_of; exact if_pos h
theorem pb_f {p : Prop} (h : ¬ p) : pb_of p = 0 := by
  unfold pb_of; exact if_neg h
theorem pb_01 (p : Prop) : pb_of p = 0 ∨ pb_of p = 1 := by
  by_cases h : p
  · exact Or.inr (pb_t h)
  · exact Or.inl (pb_f h)
theorem pb_c {p q : Prop} (h : p ↔ q) : pb_of p = pb_of q := congrArg pb_of (propext h)
theorem pb_z {p : Prop} : pb_of p = 0 ↔ ¬ p := by
  constructor
  · intro h hp
    rw [pb_t hp] at h
    exact absurd h (by decide)
  · exact pb_f
theorem bo_0 : vp_nar .boolean 0 = 0 := rfl
theorem bo_1 : vp_nar .boolean 1 = 1 := rfl
theorem bo_v {x : Int32} (h : x = 0 ∨ x = 1) : vp_nar .boolean x = x := by
  cases h with
  | inl h => subst h; exact bo_0
  | inr h => subst h; exact bo_1
theorem bo_n {x : Int32} (h : x = 0 ∨ x = 1) : narrow .boolean (.int x) = .int x := by
  cases h with
  | inl h => subst h; rfl
  | inr h => subst h; rfl
theorem bo_ne {x : Int32} (h : x = 0 ∨ x = 1) : ¬ x = 0 ↔ x = 1 := by
  cases h with
  | inl h => subst h; decide
  | inr h => subst h; decide
def bo_a (a : Nat → Int32) : Prop := ∀ i, a i = 0 ∨ a i = 1
/-! a block filled from its start on -/
def fi_l (a : Nat → Int32) (T n : Nat) (g : Nat → Int32) : Nat → Int32 := fun j => if T ≤ j ∧ j < T + n then g (j - T) else a j
theorem fi_out {a g : Nat → Int32} {T n j : Nat} (h : ¬ (T ≤ j ∧ j < T + n)) : fi_l a T n g j = a j := if_neg h
theorem fi_pos {a g : Nat → Int32} {T n j : Nat} (h : T ≤ j ∧ j < T + n) : fi_l a T n g j = g (j - T) := if_pos h
theorem fi_in {a g : Nat → Int32} {T n t : Nat} (h : t < n) : fi_l a T n g (T + t) = g t := by
  rw [fi_pos ⟨Nat.le_add_right T t, by omega⟩, Nat.add_sub_cancel_left]
theorem fi_0 {a g : Nat → Int32} {T : Nat} : fi_l a T 0 g = a := by
  funext j
  exact fi_out (by omega)
theorem fi_s {a g : Nat → Int32} {T n : Nat} {x : Int32} (hx : x = g n) : upd (fi_l a T n g) (T + n) x = fi_l a T (n + 1) g := by
  funext j
  by_cases h : j = T + n
  · subst h
    rw [pk_us, fi_in (Nat.lt_succ_self n)]
    exact hx
  · rw [pk_un h]
    by_cases h2 : T ≤ j ∧ j < T + n
    · rw [fi_pos h2, fi_pos ⟨h2.1, by omega⟩]
    · rw [fi_out h2, fi_out (by omega)]
theorem fi_01 {a g : Nat → Int32} {T n : Nat} (ha : bo_a a) (hg : ∀ t, t < n → g t = 0 ∨ g t = 1) : bo_a (fi_l a T n g) := by
  intro j
  by_cases h : T ≤ j ∧ j < T + n
  · rw [fi_pos h]; exact hg _ (by omega)
  · rw [fi_out h]; exact ha j
theorem fi_e {a g g' : Nat → Int32} {T n : Nat} (h : ∀ t, t < n → g t = g' t) : fi_l a T n g = fi_l a T n g' := by
  funext j
  by_cases h2 : T ≤ j ∧ j < T + n
  · rw [fi_pos h2, fi_pos h2]; exact h _ (by omega)
  · rw [fi_out h2, fi_out h2]
/-! counts -/
def cn_t (p : Nat → Int32) : Nat → Nat
  | 0 => 0
  | n + 1 => cn_t p n + (if p n = 0 then 0 else 1)
theorem cn_z {p : Nat → Int32} {n : Nat} (h : p n = 0) : cn_t p (n + 1) = cn_t p n := by
  show cn_t p n + (if p n = 0 then 0 else 1) = _
  rw [if_pos h]; rfl
theorem cn_o {p : Nat → Int32} {n : Nat} (h : ¬ p n = 0) : cn_t p (n + 1) = cn_t p n + 1 := by
  show cn_t p n + (if p n = 0 then 0 else 1) = _
  rw [if_neg h]
theorem cn_le (p : Nat → Int32) : ∀ n, cn_t p n ≤ n := by
  intro n
  induction n with
  | zero => exact Nat.le_refl 0
  | succ n ih =>
    by_cases h : p n = 0
    · rw [cn_z h]; omega
    · rw [cn_o h]; omega
theorem cn_i {p q : Nat → Int32} : ∀ n, (∀ t, t < n → (p t = 0 ↔ q t = 0)) → cn_t p n = cn_t q n := by
  intro n
  induction n with
  | zero => intro _; rfl
  | succ n ih =>
    intro h
    have h1 := ih (fun t ht => h t (by omega))
    have h2 := h n (Nat.lt_succ_self n)
    by_cases z : p n = 0
    · rw [cn_z z, cn_z (h2.mp z), h1]
    · rw [cn_o z, cn_o (fun y => z (h2.mpr y)), h1]
theorem cn_c {p q : Nat → Int32} {n : Nat} (h : ∀ t, t < n → p t = q t) : cn_t p n = cn_t q n :=
  cn_i n (fun t ht => by rw [h t ht])
theorem cn_pos {p : Nat → Int32} : ∀ n, 1 ≤ cn_t p n ↔ ∃ t, t < n ∧ ¬ p t = 0 := by
  intro n
  induction n with
  | zero =>
    constructor
    · intro h; exact absurd h (Nat.not_succ_le_zero 0)
    · rintro ⟨t, ht, _⟩; omega
  | succ n ih =>
    by_cases z : p n = 0
    · rw [cn_z z, ih]
      constructor
      · rintro ⟨t, ht, h⟩; exact ⟨t, by omega, h⟩
      · rintro ⟨t, ht, h⟩
        refine ⟨t, ?_, h⟩
        have : t ≠ n := fun e => h (e ▸ z)
        omega
    · rw [cn_o z]
      constructor
      · intro _; exact ⟨n, Nat.lt_succ_self n, z⟩
      · intro _; omega
theorem cn_full {p : Nat → Int32} : ∀ n, n ≤ cn_t p n ↔ ∀ t, t < n → ¬ p t = 0 := by
  intro n
  induction n with
  | zero =>
    constructor
    · intro _ t ht; omega
    · intro _; exact Nat.zero_le _
  | succ n ih =>
    have hl := cn_le p n
    by_cases z : p n = 0
    · rw [cn_z z]
      constructor
      · intro h; omega
      · intro h; exact absurd z (h n (Nat.lt_succ_self n))
    · rw [cn_o z]
      constructor
      · intro h t ht
        by_cases e : t = n
        · rw [e]; exact z
        · exact ih.mp (by omega) t (by omega)
      · intro h
        have := ih.mpr (fun t ht => h t (by omega))
        omega
/-! digits of a triple's number -/
def dg_v (v t : Nat) : Nat := t / 8 ^ v % 8
def dg_b (v t : Nat) : Nat := t - dg_v v t * 8 ^ v
theorem dg_1 : ∀ v, v < 3 → ∀ t, t < 512 → (dg_b v t + dg_v v t * 8 ^ v = t ∧ dg_v v t < 8) ∧ ((dg_v v t = 0 ↔ dg_b v t = t) ∧ dg_b v t ≤ t) := by decide +kernel
theorem dg_2 : ∀ v, v < 3 → ∀ t, t < 512 → ∀ x, x < 8 → dg_b v t + x * 8 ^ v < 512 ∧ dg_b v (dg_b v t + x * 8 ^ v) = dg_b v t ∧ dg_v v (dg_b v t + x * 8 ^ v) = x := by decide +kernel
theorem dg_eq {v t : Nat} (hv : v < 3) (ht : t < 512) : dg_b v t + dg_v v t * 8 ^ v = t := (dg_1 v hv t ht).1.1
theorem dg_lt {v t : Nat} (hv : v < 3) (ht : t < 512) : dg_v v t < 8 := (dg_1 v hv t ht).1.2
theorem dg_0 {v t : Nat} (hv : v < 3) (ht : t < 512) : dg_v v t = 0 ↔ dg_b v t = t := (dg_1 v hv t ht).2.1
theorem dg_le {v t : Nat} (hv : v < 3) (ht : t < 512) : dg_b v t ≤ t := (dg_1 v hv t ht).2.2
theorem dg_l {v t x : Nat} (hv : v < 3) (ht : t < 512) (hx : x < 8) : dg_b v t + x * 8 ^ v < 512 := (dg_2 v hv t ht x hx).1
theorem dg_lb {v t x : Nat} (hv : v < 3) (ht : t < 512) (hx : x < 8) : dg_b v (dg_b v t + x * 8 ^ v) = dg_b v t := (dg_2 v hv t ht x hx).2.1
theorem dg_lv {v t x : Nat} (hv : v < 3) (ht : t < 512) (hx : x < 8) : dg_v v (dg_b v t + x * 8 ^ v) = x := (dg_2 v hv t ht x hx).2.2
theorem dg_bb {v t : Nat} (hv : v < 3) (ht : t < 512) : dg_b v (dg_b v t) = dg_b v t := by
  have h := dg_lb hv ht (x := 0) (by decide)
  rw [Nat.zero_mul, Nat.add_zero] at h
  exact h
theorem dg_bl {v t : Nat} (hv : v < 3) (ht : t < 512) : dg_b v t < 512 := Nat.lt_of_le_of_lt (dg_le hv ht) ht
/-! a line filled -/
def li_a (s : Nat → Int32) (F S : Nat) (x : Int32) : Nat → Nat → Int32
  | 0 => s
  | n + 1 => upd (li_a s F S x n) (F + n * S) x
theorem li_in {s : Nat → Int32} {F S : Nat} {x : Int32} : ∀ n i, i < n → li_a s F S x n (F + i * S) = x := by
  intro n
  induction n with
  | zero => intro i hi; omega
  | succ n ih =>
    intro i hi
    show upd (li_a s F S x n) (F + n * S) x (F + i * S) = x
    by_cases e : F + i * S = F + n * S
    · rw [e, pk_us]
    · rw [pk_un e]
      refine ih i ?_
      have : i ≠ n := fun z => e (by rw [z])
      omega
theorem li_out {s : Nat → Int32} {F S j : Nat} {x : Int32} : ∀ n, (∀ i, i < n → j ≠ F + i * S) → li_a s F S x n j = s j := by
  intro n
  induction n with
  | zero => intro _; rfl
  | succ n ih =>
    intro h
    show upd (li_a s F S x n) (F + n * S) x j = s j
    rw [pk_un (h n (Nat.lt_succ_self n))]
    exact ih (fun i hi => h i (by omega))
theorem li_01 {s : Nat → Int32} {F S : Nat} {x : Int32} (hs : bo_a s) (hx : x = 0 ∨ x = 1) : ∀ n, bo_a (li_a s F S x n) := by
  intro n
  induction n with
  | zero => exact hs
  | succ n ih =>
    intro j
    show upd (li_a s F S x n) (F + n * S) x j = 0 ∨ upd (li_a s F S x n) (F + n * S) x j = 1
    by_cases e : j = F + n * S
    · rw [e, pk_us]; exact hx
    · rw [pk_un e]; exact ih j
/-! lines answered up to a base -/
def qu_a (a : Nat → Int32) (T v n : Nat) (G : Nat → Int32) : Nat → Int32 := fun j => if (T ≤ j ∧ j < T + 512) ∧ dg_b v (j - T) < n then G (dg_b v (j - T)) else a j
theorem qu_pos {a G : Nat → Int32} {T v n j : Nat} (h : (T ≤ j ∧ j < T + 512) ∧ dg_b v (j - T) < n) : qu_a a T v n G j = G (dg_b v (j - T)) := if_pos h
theorem qu_out {a G : Nat → Int32} {T v n j : Nat} (h : ¬ ((T ≤ j ∧ j < T + 512) ∧ dg_b v (j - T) < n)) : qu_a a T v n G j = a j := if_neg h
theorem qu_0 {a G : Nat → Int32} {T v : Nat} : qu_a a T v 0 G = a := by
  funext j
  exact qu_out (fun h => Nat.not_lt_zero _ h.2)
theorem qu_01 {a G : Nat → Int32} {T v n : Nat} (ha : bo_a a) (hG : ∀ i, G i = 0 ∨ G i = 1) : bo_a (qu_a a T v n G) := by
  intro j
  by_cases h : (T ≤ j ∧ j < T + 512) ∧ dg_b v (j - T) < n
  · rw [qu_pos h]; exact hG _
  · rw [qu_out h]; exact ha j
theorem qu_keep {a G : Nat → Int32} {T v n : Nat} (hv : v < 3) (hn : n < 512) (h : ¬ dg_v v n = 0) : qu_a a T v (n + 1) G = qu_a a T v n G := by
  funext j
  by_cases hr : T ≤ j ∧ j < T + 512
  · have ht : j - T < 512 := by omega
    have hb : dg_b v (j - T) ≠ n := by
      intro e
      have h1 := dg_bb hv ht
      rw [e] at h1
      exact h ((dg_0 hv hn).mpr h1)
    by_cases hl : dg_b v (j - T) < n
    · rw [qu_pos ⟨hr, hl⟩, qu_pos ⟨hr, by omega⟩]
    · rw [qu_out (fun z => hl z.2), qu_out (fun z => by have := z.2; omega)]
  · rw [qu_out (fun z => hr z.1), qu_out (fun z => hr z.1)]
theorem qu_read {a G : Nat → Int32} {T v n x : Nat} (hv : v < 3) (hn : n < 512) (h : dg_v v n = 0) (hx : x < 8) : qu_a a T v n G (T + n + x * 8 ^ v) = a (T + n + x * 8 ^ v) := by
  refine qu_out (fun z => ?_)
  have h1 := z.2
  have h2 := (dg_0 hv hn).mp h
  have h3 := dg_lb hv hn hx
  rw [h2] at h3
  rw [Nat.add_assoc, Nat.add_sub_cancel_left, h3] at h1
  omega
theorem qu_line {a G : Nat → Int32} {T v n : Nat} (hv : v < 3) (hn : n < 512) (h : dg_v v n = 0) : li_a (qu_a a T v n G) (T + n) (8 ^ v) (G n) 8 = qu_a a T v (n + 1) G := by
  have hb := (dg_0 hv hn).mp h
  funext j
  by_cases hr : T ≤ j ∧ j < T + 512
  · have ht : j - T < 512 := by omega
    by_cases e : dg_b v (j - T) = n
    · have h1 := dg_eq hv ht
      have h2 : j = T + n + dg_v v (j - T) * 8 ^ v := by omega
      rw [qu_pos ⟨hr, by omega⟩, e]
      have h3 := li_in (s := qu_a a T v n G) (F := T + n) (S := 8 ^ v) (x := G n) 8 (dg_v v (j - T)) (dg_lt hv ht)
      rw [← h2] at h3
      exact h3
    · rw [li_out 8 (fun i hi z => e (by
        have h1 : j - T = dg_b v n + i * 8 ^ v := by rw [hb]; omega
        rw [h1, dg_lb hv hn hi, hb]))]
      by_cases hl : dg_b v (j - T) < n
      · rw [qu_pos ⟨hr, hl⟩, qu_pos ⟨hr, by omega⟩]
      · rw [qu_out (fun z => hl z.2), qu_out (fun z => by have := z.2; omega)]
  · rw [li_out 8 (fun i hi z => hr (by
      have h1 := dg_l hv hn hi
      rw [hb] at h1
      omega))]
    rw [qu_out (fun z => hr z.1), qu_out (fun z => hr z.1)]
theorem qu_end {a G g : Nat → Int32} {T v : Nat} (hv : v < 3) (h : ∀ t, t < 512 → G (dg_b v t) = g t) : qu_a a T v 512 G = fi_l a T 512 g := by
  funext j
  by_cases hr : T ≤ j ∧ j < T + 512
  · have ht : j - T < 512 := by omega
    rw [qu_pos ⟨hr, dg_bl hv ht⟩, fi_pos hr]
    exact h _ ht
  · rw [qu_out (fun z => hr z.1), fi_out hr]
/-! cells exchanged in pairs -/
def sw_a (a : Nat → Int32) (T : Nat) (f : Nat → Nat) (n : Nat) : Nat → Int32 := fun j => if (T ≤ j ∧ j < T + 512) ∧ (j - T < n ∨ f (j - T) < n) then a (T + f (j - T)) else a j
theorem sw_pos {a : Nat → Int32} {T n j : Nat} {f : Nat → Nat} (h : (T ≤ j ∧ j < T + 512) ∧ (j - T < n ∨ f (j - T) < n)) : sw_a a T f n j = a (T + f (j - T)) := if_pos h
theorem sw_out {a : Nat → Int32} {T n j : Nat} {f : Nat → Nat} (h : ¬ ((T ≤ j ∧ j < T + 512) ∧ (j - T < n ∨ f (j - T) < n))) : sw_a a T f n j = a j := if_neg h
theorem sw_0 {a : Nat → Int32} {T : Nat} {f : Nat → Nat} : sw_a a T f 0 = a := by
  funext j
  exact sw_out (fun h => h.2.elim (Nat.not_lt_zero _) (Nat.not_lt_zero _))
theorem sw_01 {a : Nat → Int32} {T n : Nat} {f : Nat → Nat} (ha : bo_a a) : bo_a (sw_a a T f n) := by
  intro j
  by_cases h : (T ≤ j ∧ j < T + 512) ∧ (j - T < n ∨ f (j - T) < n)
  · rw [sw_pos h]; exact ha _
  · rw [sw_out h]; exact ha j
theorem sw_keep {a : Nat → Int32} {T n : Nat} {f : Nat → Nat} (hf : ∀ t, t < 512 → f t < 512 ∧ f (f t) = t) (hn : n < 512) (h : ¬ n < f n) : sw_a a T f (n + 1) = sw_a a T f n := by
  funext j
  by_cases hr : T ≤ j ∧ j < T + 512
  · have ht : j - T < 512 := by omega
    by_cases hl : j - T < n ∨ f (j - T) < n
    · rw [sw_pos ⟨hr, hl⟩, sw_pos ⟨hr, by omega⟩]
    · rw [sw_out (n := n) (fun z => hl z.2)]
      by_cases hl2 : j - T < n + 1 ∨ f (j - T) < n + 1
      · rw [sw_pos ⟨hr, hl2⟩]
        have hff := (hf _ ht).2
        have e : f (j - T) = j - T := by
          by_cases e1 : j - T = n
          · have h3 : ¬ f (j - T) < n := fun z => hl (Or.inr z)
            rw [e1] at h3 ⊢
            omega
          · have e2 : f (j - T) = n := by omega
            rw [e2] at hff
            omega
        rw [e]
        exact congrArg a (by omega)
      · exact sw_out (fun z => hl2 z.2)
  · rw [sw_out (fun z => hr z.1), sw_out (fun z => hr z.1)]
theorem sw_ra {a : Nat → Int32} {T n : Nat} {f : Nat → Nat} (h : n < f n) : sw_a a T f n (T + n) = a (T + n) := by
  refine sw_out (fun z => ?_)
  have h1 := z.2
  rw [Nat.add_sub_cancel_left] at h1
  omega
theorem sw_rb {a : Nat → Int32} {T n : Nat} {f : Nat → Nat} (hf : ∀ t, t < 512 → f t < 512 ∧ f (f t) = t) (hn : n < 512) (h : n < f n) : sw_a a T f n (T + f n) = a (T + f n) := by
  refine sw_out (fun z => ?_)
  have h1 := z.2
  rw [Nat.add_sub_cancel_left, (hf n hn).2] at h1
  omega
theorem sw_swap {a : Nat → Int32} {T n : Nat} {f : Nat → Nat} (hf : ∀ t, t < 512 → f t < 512 ∧ f (f t) = t) (hn : n < 512) (h : n < f n) :
    upd (upd (sw_a a T f n) (T + n) (sw_a a T f n (T + f n))) (T + f n) (sw_a a T f n (T + n)) = sw_a a T f (n + 1) := by
  rw [sw_ra h, sw_rb hf hn h]
  have hfn := hf n hn
  funext j
  by_cases e1 : j = T + f n
  · rw [e1, pk_us]
    have hj : T + f n - T = f n := Nat.add_sub_cancel_left _ _
    rw [sw_pos ⟨⟨Nat.le_add_right _ _, by omega⟩, by rw [hj, hfn.2]; omega⟩, hj, hfn.2]
  · rw [pk_un e1]
    by_cases e2 : j = T + n
    · rw [e2, pk_us]
      have hj : T + n - T = n := Nat.add_sub_cancel_left _ _
      rw [sw_pos ⟨⟨Nat.le_add_right _ _, by omega⟩, by rw [hj]; omega⟩, hj]
    · rw [pk_un e2]
      by_cases hr : T ≤ j ∧ j < T + 512
      · have ht : j - T < 512 := by omega
        have hft := hf _ ht
        have h3 : f (j - T) ≠ n := by
          intro z
          rw [z] at hft
          exact e1 (by omega)
        by_cases hl : j - T < n ∨ f (j - T) < n
        · rw [sw_pos ⟨hr, hl⟩, sw_pos ⟨hr, by omega⟩]
        · rw [sw_out (fun z => hl z.2), sw_out (fun z => by have := z.2; omega)]
      · rw [sw_out (fun z => hr z.1), sw_out (fun z => hr z.1)]
theorem sw_end {a : Nat → Int32} {T : Nat} {f : Nat → Nat} : sw_a a T f 512 = fi_l a T 512 (fun t => a (T + f t)) := by
  funext j
  by_cases hr : T ≤ j ∧ j < T + 512
  · rw [sw_pos ⟨hr, Or.inl (by omega)⟩, fi_pos hr]
  · rw [sw_out (fun z => hr z.1), fi_out hr]
/-! the two rearrangements -/
def dg_ex (u v t : Nat) : Nat := dg_b v (dg_b u t + dg_v v t * 8 ^ u) + dg_v u t * 8 ^ v
def dg_mi (v t : Nat) : Nat := dg_b v t + (7 - dg_v v t) * 8 ^ v
theorem dg_exf : ∀ u, u < 3 → ∀ v, v < 3 → ∀ t, t < 512 → dg_ex u v t < 512 ∧ dg_ex u v (dg_ex u v t) = t := by decide +kernel
theorem dg_mif : ∀ v, v < 3 → ∀ t, t < 512 → dg_mi v t < 512 ∧ dg_mi v (dg_mi v t) = t := by decide +kernel
end
section
/-! numbers of triples as the two sides reckon them -/
theorem dn_val : ∀ v, v < 3 → ∀ t, t < 512 → (nI t >>> ((3 * nI v) &&& 31)) &&& 7 = nI (dg_v v t) := by decide +kernel
theorem dn_step : ∀ v, v < 3 → (1 : Int32) <<< ((3 * nI v) &&& 31) = nI (8 ^ v) := by decide +kernel
theorem dn_with : ∀ v, v < 3 → ∀ t, t < 512 → ∀ x, x < 8 → (nI t &&& (((7 : Int32) <<< ((3 * nI v) &&& 31)) ^^^ (-1))) ||| (nI x <<< ((3 * nI v) &&& 31)) = nI (dg_b v t + x * 8 ^ v) := by decide +kernel
theorem dn_ex : ∀ u, u < 3 → ∀ v, v < 3 → ∀ t, t < 512 → (nI t + ((((nI t >>> ((3 * nI v) &&& 31)) &&& 7) - ((nI t >>> ((3 * nI u) &&& 31)) &&& 7)) * ((1 : Int32) <<< ((3 * nI u) &&& 31)))) - ((((nI t >>> ((3 * nI v) &&& 31)) &&& 7) - ((nI t >>> ((3 * nI u) &&& 31)) &&& 7)) * ((1 : Int32) <<< ((3 * nI v) &&& 31))) = nI (dg_ex u v t) := by decide +kernel
theorem dn_mi : ∀ v, v < 3 → ∀ t, t < 512 → nI t + (((7 - ((nI t >>> ((3 * nI v) &&& 31)) &&& 7)) - ((nI t >>> ((3 * nI v) &&& 31)) &&& 7)) * ((1 : Int32) <<< ((3 * nI v) &&& 31))) = nI (dg_mi v t) := by decide +kernel
theorem dn_or : ∀ m, m < 256 → ∀ x, x < 8 → nI m ||| ((1 : Int32) <<< (nI x &&& 31)) = nI (m ||| 2 ^ x) ∧ m ||| 2 ^ x < 256 := by decide +kernel
theorem dn_bit : ∀ m, m < 256 → ∀ x, x < 8 → (nI m >>> (nI x &&& 31)) &&& 1 = nI (if m.testBit x = true then 1 else 0) := by decide +kernel
/-! where a formula begins, where its cells lie -/
theorem ti_x (d : Nat) : nI d * 512 = nI (d * 512) := pk_mul d 512
theorem ti_y (d : Nat) : 512 * nI d = nI (d * 512) := (pk_mul 512 d).trans (congrArg nI (Nat.mul_comm 512 d))
theorem ti_top (d : Nat) : (nI (d + 1) - 1) * 512 = nI (d * 512) := by
  rw [nI_pred]; exact ti_x d
theorem ti_2 (d : Nat) : nI (d + 2) - 2 = nI d := pk_sub (a := d + 2) (b := 2) (by omega)
theorem ce_in {T t : Nat} (h : T + t < 2560) : vp_in (nI T + nI t) 2560 := pk_in (T + t) 2560 h (nI_add T t) (by decide)
theorem ce_cl {T t : Nat} (h : T + t < 2560) : (nI T + nI t).toNatClampNeg = T + t := pk_cl (T + t) (nI_add T t) (by omega)
theorem cl_in {F S i : Nat} (h : F + i * S < 2560) : vp_in (nI F + nI i * nI S) 2560 := pk_in (F + i * S) 2560 h (by rw [pk_mul, nI_add]) (by decide)
theorem cl_cl {F S i : Nat} (h : F + i * S < 2560) : (nI F + nI i * nI S).toNatClampNeg = F + i * S := pk_cl (F + i * S) (by rw [pk_mul, nI_add]) (by omega)
theorem le_512 : (512 : Int32) ≤ nI 512 := by decide +kernel
theorem le_8 : (8 : Int32) ≤ nI 8 := by decide +kernel
theorem lt_512 {i : Nat} (h : i < 512) : ¬ (512 : Int32) ≤ nI i := nI_ge (b := 512) h (by decide)
theorem lt_8 {i : Nat} (h : i < 8) : ¬ (8 : Int32) ≤ nI i := nI_ge (b := 8) h (by decide)
theorem st_s {s s' g : Nat → Int32} {T i : Nat} {x : Int32} (hs : s' = fi_l s T i g) (h : T + i < 2560) (hx : x = g i) : upd s' (nI T + nI i).toNatClampNeg x = fi_l s T (i + 1) g := by
  rw [ce_cl h, hs]; exact fi_s hx
theorem rd_f {s s' g : Nat → Int32} {T i : Nat} (hs : s' = fi_l s T i g) (h : T + i < 2560) : s' (nI T + nI i).toNatClampNeg = s (T + i) := by
  rw [ce_cl h, hs]; exact fi_out (by omega)
theorem rd_o {s s' g : Nat → Int32} {T R n i : Nat} (hs : s' = fi_l s T n g) (h : R + i < 2560) (ho : R + i < T ∨ T + n ≤ R + i) : s' (nI R + nI i).toNatClampNeg = s (R + i) := by
  rw [ce_cl h, hs]; exact fi_out (by omega)
theorem rd_c {s : Nat → Int32} {T i : Nat} (h : T + i < 2560) : s (nI T + nI i).toNatClampNeg = s (T + i) := by
  rw [ce_cl h]
theorem ng_0 {x : Int32} {p : Prop} (hx : x = 0) (h : ¬ p) : vp_nar .boolean x = pb_of p := by
  rw [hx, pb_f h]; exact bo_0
theorem ng_1 {x : Int32} {p : Prop} (hx : x = 1) (h : p) : vp_nar .boolean x = pb_of p := by
  rw [hx, pb_t h]; exact bo_1
/-! X's small methods -/
def ws_i (a b c t : Int32) : Int32 := ((a * ((t >>> (((3 : Int32) * 0) &&& 31)) &&& 7)) + (b * ((t >>> (((3 : Int32) * 1) &&& 31)) &&& 7))) + (c * ((t >>> (((3 : Int32) * 2) &&& 31)) &&& 7))
theorem xs_ws {post : Int32 → Prop} {a b c t : Int32} (h : post (ws_i a b c t)) : wpX_weightedSum post a b c t := h
theorem xs_val {post : Int32 → Prop} {v t : Nat} (hv : v < 3) (ht : t < 512) (h : post (nI (dg_v v t))) : wpX_valueOf post (nI t) (nI v) :=
  (congrArg post (dn_val v hv t ht)).mpr h
theorem xs_st {post : Int32 → Prop} {v : Nat} (hv : v < 3) (h : post (nI (8 ^ v))) : wpX_stepOf post (nI v) :=
  (congrArg post (dn_step v hv)).mpr h
theorem xs_ex {post : Int32 → Prop} {u v t : Nat} (hu : u < 3) (hv : v < 3) (ht : t < 512) (h : post (nI (dg_ex u v t))) : wpX_exchangedNumber post (nI t) (nI u) (nI v) := by
  intro x hx
  subst hx
  exact (congrArg post (dn_ex u hu v hv t ht)).mpr h
theorem xs_mi {post : Int32 → Prop} {v t : Nat} (hv : v < 3) (ht : t < 512) (h : post (nI (dg_mi v t))) : wpX_mirroredNumber post (nI t) (nI v) := by
  intro x hx
  subst hx
  exact (congrArg post (dn_mi v hv t ht)).mpr h
theorem xs_top {post : Int32 → Prop} {d : Nat} {s : Nat → Int32} (h : post (nI (d * 512))) : wpX_topStart post (nI (d + 1), s) :=
  (congrArg post (ti_top d)).mpr h
def co_ok (p : Int32) : Prop := ¬ p < (-4) ∧ ¬ 4 < p
theorem xs_co_t {post : Int32 → Prop} {p : Int32} (c : co_ok p) (h : post 1) : wpX_isCoefficient post p := br_f c.1 (br_f c.2 h)
theorem xs_co_f {post : Int32 → Prop} {p : Int32} (c : ¬ co_ok p) (h : post 0) : wpX_isCoefficient post p :=
  br_c (fun _ => h) (fun z => br_c (fun _ => h) (fun y => absurd ⟨z, y⟩ c))
theorem xs_va_t {post : Int32 → Prop} {v : Nat} (hv : v < 3) (h : post 1) : wpX_isVariable post (nI v) :=
  br_f (nI_pos (by omega)) (br_f (nI_ge (b := 3) hv (by decide)) h)
theorem xs_va_f {post : Int32 → Prop} {p : Int32} (c : ¬ ∃ v : Nat, v < 3 ∧ p = nI v) (h : post 0) : wpX_isVariable post p :=
  br_c (fun _ => h) (fun z => br_c (fun _ => h) (fun y => by
    obtain ⟨j, hj, e⟩ := nI_of z
    refine absurd ⟨j, ?_, e⟩ c
    rw [e] at y
    exact Nat.lt_of_not_le (fun w => y (nI_le (a := 3) w hj))))
theorem xs_pl_t {post : Int32 → Prop} {p d : Nat} {s : Nat → Int32} (hd : d ≤ 5) (hp : p < d) (h : post 1) : wpX_isPlace post (nI d, s) (nI p) :=
  br_f (nI_pos (by omega)) (br_f (nI_ge hp (by omega)) h)
theorem xs_pl_f {post : Int32 → Prop} {p : Int32} {d : Nat} {s : Nat → Int32} (c : ¬ ∃ j : Nat, j < d ∧ p = nI j) (h : post 0) : wpX_isPlace post (nI d, s) p :=
  br_c (fun _ => h) (fun z => br_c (fun _ => h) (fun y => by
    obtain ⟨j, hj, e⟩ := nI_of z
    refine absurd ⟨j, ?_, e⟩ c
    rw [e] at y
    exact Nat.lt_of_not_le (fun w => y (nI_le w hj))))
theorem xs_sw {post : SX → Prop} {H p q : Int32} {s : Nat → Int32} {i j : Nat} (hs : bo_a s) (hi : i < 2560) (hj : j < 2560) (hp : p = nI i) (hq : q = nI j)
    (h : post (H, upd (upd s i (s j)) j (s i))) : wpX_swapCells post (H, s) p q := by
  subst hp hq
  have ei : (nI i).toNatClampNeg = i := nI_clamp (by omega)
  have ej : (nI j).toNatClampNeg = j := nI_clamp (by omega)
  have pi : vp_in (nI i) 2560 := vp_in_nI hi (by decide)
  have pj : vp_in (nI j) 2560 := vp_in_nI hj (by decide)
  refine ⟨pi, nm_r (e' := s i) (by rw [ei]) ⟨pj, pi, nm_r (e' := upd s i (s j)) (by rw [ei, ej, bo_v (hs j)]) ⟨pj, nm_r (e' := upd (upd s i (s j)) j (s i)) (by rw [ej, bo_v (hs i)]) h⟩⟩⟩
/-! joining -/
def jo_p : Nat → Int32 → Int32 → Prop
  | 1, x, y => ¬ x = 0 ∧ ¬ y = 0
  | 2, x, y => ¬ x = 0 ∨ ¬ y = 0
  | 3, x, y => ¬ x = y
  | _, x, y => x = 0 ∨ ¬ y = 0
theorem jo_and {post : Int32 → Prop} {x y : Int32} (h : post (pb_of (¬ x = 0 ∧ ¬ y = 0))) : (x = 0 → post 0) ∧ (¬ x = 0 → ((y = 0 → post 0) ∧ (¬ y = 0 → post 1))) :=
  br_c (fun a => by rw [pb_f (fun z => z.1 a)] at h; exact h) (fun a => br_c (fun b => by rw [pb_f (fun z => z.2 b)] at h; exact h) (fun b => by rw [pb_t ⟨a, b⟩] at h; exact h))
theorem jo_or {post : Int32 → Prop} {x y : Int32} (h : post (pb_of (¬ x = 0 ∨ ¬ y = 0))) : (x = 0 → ((y = 0 → post 0) ∧ (¬ y = 0 → post 1))) ∧ (¬ x = 0 → post 1) :=
  br_c (fun a => br_c (fun b => by rw [pb_f (fun z => z.elim (fun w => w a) (fun w => w b))] at h; exact h) (fun b => by rw [pb_t (Or.inr b)] at h; exact h)) (fun a => by rw [pb_t (Or.inl a)] at h; exact h)
theorem jo_xor {post : Int32 → Prop} {x y : Int32} (h : post (pb_of (¬ x = y))) : (x = y → post 0) ∧ (¬ x = y → post 1) :=
  br_c (fun a => by rw [pb_f (fun z => z a)] at h; exact h) (fun a => by rw [pb_t a] at h; exact h)
theorem jo_imp {post : Int32 → Prop} {x y : Int32} (h : post (pb_of (x = 0 ∨ ¬ y = 0))) : (x = 0 → post 1) ∧ (¬ x = 0 → ((y = 0 → post 0) ∧ (¬ y = 0 → post 1))) :=
  br_c (fun a => by rw [pb_t (Or.inl a)] at h; exact h) (fun a => br_c (fun b => by rw [pb_f (fun z => z.elim a (fun w => w b))] at h; exact h) (fun b => by rw [pb_t (Or.inr b)] at h; exact h))
theorem xs_jo {post : Int32 → Prop} {k : Nat} {x y : Int32} (h1 : 1 ≤ k) (h4 : k ≤ 4) (h : post (pb_of (jo_p k x y))) : wpX_joined post (nI k) x y := by
  match k, h1, h4, h with
  | 1, _, _, h => exact br_f (by decide) (br_f (by decide) (br_t (by decide) (jo_and h)))
  | 2, _, _, h => exact br_f (by decide) (br_f (by decide) (br_f (by decide) (br_t (by decide) (jo_or h))))
  | 3, _, _, h => exact br_f (by decide) (br_f (by decide) (br_f (by decide) (br_f (by decide) (br_t (by decide) (jo_xor h)))))
  | 4, _, _, h => exact br_f (by decide) (br_t (by decide) (jo_imp h))
theorem ys_jo {post : Int32 → Prop} {k : Nat} {x y D : Int32} {s o : Nat → Int32} (h1 : 1 ≤ k) (h4 : k ≤ 4) (h : post (pb_of (jo_p k x y))) : wpY_joined post (D, s, o) (nI k) x y := by
  match k, h1, h4, h with
  | 1, _, _, h => exact br_t (by decide) (jo_and h)
  | 2, _, _, h => exact br_f (by decide) (br_t (by decide) (jo_or h))
  | 3, _, _, h => exact br_f (by decide) (br_f (by decide) (br_t (by decide) (jo_xor h)))
  | 4, _, _, h => exact br_f (by decide) (br_f (by decide) (br_f (by decide) (jo_imp h)))
/-! Y's small methods -/
theorem ys_ws {post : Int32 → Prop} {a b c t D : Int32} {s o : Nat → Int32} (h : post (ws_i a b c t)) : wpY_sum post (D, s, o) t a b c := h
theorem ys_val {post : Int32 → Prop} {v t : Nat} {D : Int32} {s o : Nat → Int32} (hv : v < 3) (ht : t < 512) (h : post (nI (dg_v v t))) : wpY_value post (D, s, o) (nI t) (nI v) :=
  (congrArg post (dn_val v hv t ht)).mpr h
theorem ys_with {post : Int32 → Prop} {v t x : Nat} {D : Int32} {s o : Nat → Int32} (hv : v < 3) (ht : t < 512) (hx : x < 8) (h : post (nI (dg_b v t + x * 8 ^ v))) : wpY_with post (D, s, o) (nI t) (nI v) (nI x) :=
  (congrArg post (dn_with v hv t ht x hx)).mpr h
theorem ys_at {post : Int32 → Prop} {d : Nat} {D p : Int32} {s o : Nat → Int32} (hd : d ≤ 4) (e : p = nI d) (h : post (nI (d * 512))) : wpY_at post (D, s, o) p := by
  subst e
  exact br_t (nI_pos' (by omega)) (br_t (nI_le (b := 4) hd (by decide)) ((congrArg post (ti_y d)).mpr h))
theorem ys_co_t {post : Int32 → Prop} {p D : Int32} {s o : Nat → Int32} (c : co_ok p) (h : post 0) : wpY_far post (D, s, o) p := br_f c.1 (br_t (Int32.not_lt.mp c.2) h)
theorem ys_co_f {post : Int32 → Prop} {p D : Int32} {s o : Nat → Int32} (c : ¬ co_ok p) (h : post 1) : wpY_far post (D, s, o) p :=
  br_c (fun _ => h) (fun z => br_c (fun y => absurd ⟨z, Int32.not_lt.mpr y⟩ c) (fun _ => h))
theorem ys_va_t {post : Int32 → Prop} {v : Nat} {D : Int32} {s o : Nat → Int32} (hv : v < 3) (h : post 0) : wpY_badVar post (D, s, o) (nI v) :=
  br_f (nI_pos (by omega)) (br_t (nI_le (b := 2) (by omega) (by decide)) h)
theorem ys_va_f {post : Int32 → Prop} {p D : Int32} {s o : Nat → Int32} (c : ¬ ∃ v : Nat, v < 3 ∧ p = nI v) (h : post 1) : wpY_badVar post (D, s, o) p :=
  br_c (fun _ => h) (fun z => br_c (fun y => by
    obtain ⟨j, hj, e⟩ := nI_of z
    refine absurd ⟨j, ?_, e⟩ c
    rw [e] at y
    have w : j ≤ 2 := (nI_leI (b := 2) hj (by decide)).mp y
    omega) (fun _ => h))
theorem ys_pl_t {post : Int32 → Prop} {p d : Nat} {s o : Nat → Int32} (hd : d ≤ 5) (hp : p < d) (h : post 0) : wpY_badPlace post (nI d, s, o) (nI p) :=
  br_f (nI_pos (by omega)) (br_f (nI_ge hp (by omega)) (br_t (nI_le (b := 4) (by omega) (by decide)) h))
theorem ys_pl_f {post : Int32 → Prop} {p : Int32} {d : Nat} {s o : Nat → Int32} (hd : d ≤ 5) (c : ¬ ∃ j : Nat, j < d ∧ p = nI j) (h : post 1) : wpY_badPlace post (nI d, s, o) p :=
  br_c (fun _ => h) (fun z => br_c (fun _ => h) (fun y => by
    obtain ⟨j, hj, e⟩ := nI_of z
    refine absurd ⟨j, ?_, e⟩ c
    rw [e] at y
    exact Nat.lt_of_not_le (fun w => y (nI_le w hj))))
end
section
/-! X's loops, each against its pure picture -/
theorem xl_atMost {post : Int32 → SX → Prop} {a b c k : Int32} {d : Nat} {s : Nat → Int32} (hd : d < 5)
    (h : post (nI (d + 1)) (nI (d + 1), fi_l s (d * 512) 512 (fun t => pb_of (¬ k < ws_i a b c (nI t))))) :
    ∃ n, wX_atMost_64 post a b c k (nI (d * 512)) (nI d) n 0 s := by
  refine loop_0 (fun n i s' => wX_atMost_64 post a b c k (nI (d * 512)) (nI d) n (nI i) s') (fun i s' => s' = fi_l s (d * 512) i (fun t => pb_of (¬ k < ws_i a b c (nI t)))) 512 s fi_0.symm ?_ ?_
  · intro n s' hs
    subst hs
    exact br_t le_512 (nm_r (nI_1 d) h)
  · intro n i s' hi hs ih
    refine br_f (lt_512 hi) (xs_ws ?_)
    refine br_c (fun hc => ⟨ce_in (by omega), ?_⟩) (fun hc => ⟨ce_in (by omega), ?_⟩)
    · exact nm_r (st_s hs (by omega) (ng_0 rfl (fun z => z hc))) (nm_r (nI_1 i) (ih _ rfl))
    · exact nm_r (st_s hs (by omega) (ng_1 rfl hc)) (nm_r (nI_1 i) (ih _ rfl))
theorem xl_congruent {post : Int32 → SX → Prop} {a b c m r : Int32} {d : Nat} {s : Nat → Int32} (hd : d < 5) (hm : ¬ m = 0)
    (h : post (nI (d + 1)) (nI (d + 1), fi_l s (d * 512) 512 (fun t => pb_of ((ws_i a b c (nI t) - r) - (ws_i a b c (nI t) - r) / m * m = 0)))) :
    ∃ n, wX_congruent_90 post m r a b c (nI (d * 512)) (nI d) n 0 s := by
  refine loop_0 (fun n i s' => wX_congruent_90 post m r a b c (nI (d * 512)) (nI d) n (nI i) s') (fun i s' => s' = fi_l s (d * 512) i (fun t => pb_of ((ws_i a b c (nI t) - r) - (ws_i a b c (nI t) - r) / m * m = 0))) 512 s fi_0.symm ?_ ?_
  · intro n s' hs
    subst hs
    exact br_t le_512 (nm_r (nI_1 d) h)
  · intro n i s' hi hs ih
    refine br_f (lt_512 hi) (xs_ws ?_)
    refine nm_e ⟨hm, br_c (fun hc => ⟨ce_in (by omega), ?_⟩) (fun hc => ⟨ce_in (by omega), ?_⟩)⟩
    · exact nm_r (st_s hs (by omega) (ng_1 rfl hc)) (nm_r (nI_1 i) (ih _ rfl))
    · exact nm_r (st_s hs (by omega) (ng_0 rfl hc)) (nm_r (nI_1 i) (ih _ rfl))
theorem xl_negate {post : SX → Prop} {d : Nat} {s : Nat → Int32} (hd : d < 5)
    (h : post (nI (d + 1), fi_l s (d * 512) 512 (fun t => pb_of (s (d * 512 + t) = 0)))) : wpX_negateTop post (nI (d + 1), s) := by
  unfold wpX_negateTop
  dsimp only
  refine xs_top ?_
  refine loop_0 (fun n i s' => wX_negateTop_7 post (nI (d * 512)) (nI (d + 1)) n (nI i) s') (fun i s' => s' = fi_l s (d * 512) i (fun t => pb_of (s (d * 512 + t) = 0))) 512 s fi_0.symm ?_ ?_
  · intro n s' hs
    subst hs
    exact br_t le_512 h
  · intro n i s' hi hs ih
    have hr : s' (nI (d * 512) + nI i).toNatClampNeg = s (d * 512 + i) := rd_f hs (by omega)
    refine br_f (lt_512 hi) ⟨ce_in (by omega), br_c (fun hc => ⟨ce_in (by omega), ?_⟩) (fun hc => ⟨ce_in (by omega), ?_⟩)⟩
    · exact nm_r (st_s hs (by omega) (ng_1 rfl (hr.symm.trans hc))) (nm_r (nI_1 i) (ih _ rfl))
    · exact nm_r (st_s hs (by omega) (ng_0 rfl (fun z => hc (hr.trans z)))) (nm_r (nI_1 i) (ih _ rfl))
theorem xl_join {post : SX → Prop} {d k : Nat} {s : Nat → Int32} (hd : d < 4) (h1 : 1 ≤ k) (h4 : k ≤ 4)
    (h : post (nI (d + 1), fi_l s (d * 512) 512 (fun t => pb_of (jo_p k (s (d * 512 + t)) (s ((d + 1) * 512 + t)))))) : wpX_joinTopTwo post (nI (d + 2), s) (nI k) := by
  unfold wpX_joinTopTwo
  dsimp only
  refine xs_top (d := d + 1) ?_
  refine nm_r (e' := nI (d * 512)) ((pk_sub (a := (d + 1) * 512) (b := 512) (by omega)).trans (congrArg nI (by omega))) ?_
  refine loop_0 (fun n i s' => wX_joinTopTwo_14 post (nI k) (nI ((d + 1) * 512)) (nI (d * 512)) (nI (d + 2)) n (nI i) s') (fun i s' => s' = fi_l s (d * 512) i (fun t => pb_of (jo_p k (s (d * 512 + t)) (s ((d + 1) * 512 + t))))) 512 s fi_0.symm ?_ ?_
  · intro n s' hs
    subst hs
    exact br_t le_512 (nm_r (nI_pred (d + 1)) h)
  · intro n i s' hi hs ih
    have hr : s' (nI (d * 512) + nI i).toNatClampNeg = s (d * 512 + i) := rd_f hs (by omega)
    have hr2 : s' (nI ((d + 1) * 512) + nI i).toNatClampNeg = s ((d + 1) * 512 + i) := rd_o hs (by omega) (by omega)
    refine br_f (lt_512 hi) ⟨ce_in (by omega), ce_in (by omega), ?_⟩
    refine xs_jo h1 h4 ⟨ce_in (by omega), ?_⟩
    exact nm_r (st_s hs (by omega) (by rw [hr, hr2]; exact bo_v (pb_01 _))) (nm_r (nI_1 i) (ih _ rfl))
theorem xl_copy {post : Int32 → SX → Prop} {d p : Nat} {s : Nat → Int32} (hd : d < 5) (hp : p < d) (ha : bo_a s)
    (h : post (nI (d + 1)) (nI (d + 1), fi_l s (d * 512) 512 (fun t => s (p * 512 + t)))) :
    ∃ n, wX_copy_39 post (nI (p * 512)) (nI (d * 512)) (nI d) n 0 s := by
  refine loop_0 (fun n i s' => wX_copy_39 post (nI (p * 512)) (nI (d * 512)) (nI d) n (nI i) s') (fun i s' => s' = fi_l s (d * 512) i (fun t => s (p * 512 + t))) 512 s fi_0.symm ?_ ?_
  · intro n s' hs
    subst hs
    exact br_t le_512 (nm_r (nI_1 d) h)
  · intro n i s' hi hs ih
    have hr : s' (nI (p * 512) + nI i).toNatClampNeg = s (p * 512 + i) := rd_o hs (by omega) (by omega)
    refine br_f (lt_512 hi) ⟨ce_in (by omega), ce_in (by omega), ?_⟩
    exact nm_r (st_s hs (by omega) (by rw [hr]; exact bo_v (ha _))) (nm_r (nI_1 i) (ih _ rfl))
theorem xl_hol {post : Int32 → Prop} {F S : Nat} {H : Int32} {s : Nat → Int32} (hF : F + 7 * S < 2560)
    (h : post (nI (cn_t (fun x => s (F + x * S)) 8))) : wpX_heldOnLine post (H, s) (nI F) (nI S) := by
  refine loop_0 (fun n i c => wX_heldOnLine_5 post (nI F) (nI S) H s n c (nI i)) (fun i c => c = nI (cn_t (fun x => s (F + x * S)) i)) 8 0 rfl ?_ ?_
  · intro n c hc
    subst hc
    exact br_t le_8 h
  · intro n i c hi hc ih
    have hb : F + i * S < 2560 := Nat.lt_of_le_of_lt (Nat.add_le_add_left (Nat.mul_le_mul_right S (by omega)) F) hF
    refine br_f (lt_8 hi) ⟨cl_in hb, br_c (fun hz => ?_) (fun hz => ?_)⟩
    · rw [cl_cl hb] at hz
      refine nm_r (nI_1 i) (ih _ ?_)
      rw [hc, cn_z (p := fun x => s (F + x * S)) hz]
    · rw [cl_cl hb] at hz
      refine nm_e (nm_r (nI_1 i) (ih _ ?_))
      rw [hc, cn_o (p := fun x => s (F + x * S)) hz, nI_1]
theorem xl_fill {post : SX → Prop} {F S : Nat} {H x : Int32} {s : Nat → Int32} (hF : F + 7 * S < 2560) (hx : x = 0 ∨ x = 1)
    (h : post (H, li_a s F S x 8)) : wpX_fillLine post (H, s) (nI F) (nI S) x := by
  refine loop_0 (fun n i s' => wX_fillLine_3 post (nI F) (nI S) x H n (nI i) s') (fun i s' => s' = li_a s F S x i) 8 s rfl ?_ ?_
  · intro n c hc
    subst hc
    exact br_t le_8 h
  · intro n i c hi hc ih
    have hb : F + i * S < 2560 := Nat.lt_of_le_of_lt (Nat.add_le_add_left (Nat.mul_le_mul_right S (by omega)) F) hF
    refine br_f (lt_8 hi) ⟨cl_in hb, nm_e (nm_r (nI_1 i) (ih _ ?_))⟩
    rw [cl_cl hb, bo_v hx, hc]
    rfl
theorem xl_ht {post : Int32 → Prop} {p : Nat} {H P : Int32} {s : Nat → Int32} (hp : p < 5) (e : P = nI p)
    (h : post (nI (cn_t (fun t => s (p * 512 + t)) 512))) : wpX_heldTriples post (H, s) P := by
  subst e
  refine nm_r (ti_x p) ?_
  refine loop_0 (fun n i c => wX_heldTriples_11 post (nI (p * 512)) H s n c (nI i)) (fun i c => c = nI (cn_t (fun t => s (p * 512 + t)) i)) 512 0 rfl ?_ ?_
  · intro n c hc
    subst hc
    exact br_t le_512 h
  · intro n i c hi hc ih
    have hb : p * 512 + i < 2560 := by omega
    refine br_f (lt_512 hi) ⟨ce_in hb, br_c (fun hz => ?_) (fun hz => ?_)⟩
    · rw [ce_cl hb] at hz
      refine nm_r (nI_1 i) (ih _ ?_)
      rw [hc, cn_z (p := fun t => s (p * 512 + t)) hz]
    · rw [ce_cl hb] at hz
      refine nm_e (nm_r (nI_1 i) (ih _ ?_))
      rw [hc, cn_o (p := fun t => s (p * 512 + t)) hz, nI_1]
/-- a line's answer -/
noncomputable def qu_g (s : Nat → Int32) (T v : Nat) (need : Int32) (n : Nat) : Int32 := pb_of (¬ nI (cn_t (fun x => s (T + n + x * 8 ^ v)) 8) < need)
theorem qu_b {v n : Nat} (hv : v < 3) (hn : n < 512) (h : dg_v v n = 0) : n + 7 * 8 ^ v < 512 := by
  have h1 := dg_l hv hn (x := 7) (by decide)
  rw [(dg_0 hv hn).mp h] at h1
  exact h1
theorem xl_quant {post : Int32 → SX → Prop} {d v : Nat} {need : Int32} {s : Nat → Int32} (hd : d < 5) (hv : v < 3)
    (h : post (nI (cn_t (fun t => qu_a s (d * 512) v 512 (qu_g s (d * 512) v need) (d * 512 + t)) 512)) (nI (d + 1), qu_a s (d * 512) v 512 (qu_g s (d * 512) v need))) :
    ∃ n, wX_quantify_34 post (nI v) need (nI (d * 512)) (nI (8 ^ v)) n 0 (nI (d + 1)) s := by
  refine loop_0 (fun n i s' => wX_quantify_34 post (nI v) need (nI (d * 512)) (nI (8 ^ v)) n (nI i) (nI (d + 1)) s') (fun i s' => s' = qu_a s (d * 512) v i (qu_g s (d * 512) v need)) 512 s qu_0.symm ?_ ?_
  · intro n s' hs
    subst hs
    exact br_t le_512 (xl_ht hd (nI_pred d) h)
  · intro n i s' hi hs ih
    refine br_f (lt_512 hi) (xs_val hv hi ?_)
    by_cases hz : dg_v v i = 0
    · have hb := qu_b hv hi hz
      refine br_t (by rw [hz]; exact nI_0) ?_
      rw [nI_add]
      refine xl_hol (by omega) ?_
      have hc : cn_t (fun x => s' (d * 512 + i + x * 8 ^ v)) 8 = cn_t (fun x => s (d * 512 + i + x * 8 ^ v)) 8 := cn_c (fun t ht => by rw [hs]; exact qu_read hv hi hz ht)
      rw [hc]
      refine br_c (fun hl => ?_) (fun hl => ?_)
      · refine xl_fill (by omega) (Or.inl rfl) (nm_r (nI_1 i) (ih _ ?_))
        rw [hs]
        have hg : qu_g s (d * 512) v need i = 0 := pb_f (fun z => z hl)
        rw [← hg]
        exact qu_line hv hi hz
      · refine xl_fill (by omega) (Or.inr rfl) (nm_r (nI_1 i) (ih _ ?_))
        rw [hs]
        have hg : qu_g s (d * 512) v need i = 1 := pb_t hl
        rw [← hg]
        exact qu_line hv hi hz
    · refine br_f (fun z => hz ((nI_eq (b := 0) (by have := dg_lt hv hi; omega) (by decide)).mp z)) (nm_r (nI_1 i) (ih _ ?_))
      rw [hs]
      exact (qu_keep hv hi hz).symm
theorem xl_exch {post : Int32 → SX → Prop} {d u v : Nat} {s : Nat → Int32} (hd : d < 5) (hu : u < 3) (hv : v < 3) (ha : bo_a s)
    (h : post 0 (nI (d + 1), fi_l s (d * 512) 512 (fun t => s (d * 512 + dg_ex u v t)))) :
    ∃ n, wX_exchange_35 post (nI u) (nI v) (nI (d * 512)) n 0 (nI (d + 1)) s := by
  refine loop_0 (fun n i s' => wX_exchange_35 post (nI u) (nI v) (nI (d * 512)) n (nI i) (nI (d + 1)) s') (fun i s' => s' = sw_a s (d * 512) (dg_ex u v) i) 512 s sw_0.symm ?_ ?_
  · intro n s' hs
    rw [sw_end] at hs
    subst hs
    exact br_t le_512 h
  · intro n i s' hi hs ih
    have hf := dg_exf u hu v hv
    have hl := (hf i hi).1
    refine br_f (lt_512 hi) (xs_ex hu hv hi ?_)
    refine br_c (fun hc => nm_r (nI_1 i) (ih _ ?_)) (fun hc => ?_)
    · have hc' : dg_ex u v i ≤ i := (nI_leI (by omega) (by omega)).mp hc
      rw [hs]
      exact (sw_keep hf hi (by omega)).symm
    · have hc' : i < dg_ex u v i := Nat.lt_of_not_le (fun z => hc (nI_le z (by omega)))
      refine xs_sw (i := d * 512 + i) (j := d * 512 + dg_ex u v i) (by rw [hs]; exact sw_01 ha) (by omega) (by omega) (nI_add _ _) (nI_add _ _) (nm_r (nI_1 i) (ih _ ?_))
      rw [hs]
      exact sw_swap hf hi hc'
theorem xl_mirr {post : Int32 → SX → Prop} {d v : Nat} {s : Nat → Int32} (hd : d < 5) (hv : v < 3) (ha : bo_a s)
    (h : post 0 (nI (d + 1), fi_l s (d * 512) 512 (fun t => s (d * 512 + dg_mi v t)))) :
    ∃ n, wX_mirror_27 post (nI v) (nI (d * 512)) n 0 (nI (d + 1)) s := by
  refine loop_0 (fun n i s' => wX_mirror_27 post (nI v) (nI (d * 512)) n (nI i) (nI (d + 1)) s') (fun i s' => s' = sw_a s (d * 512) (dg_mi v) i) 512 s sw_0.symm ?_ ?_
  · intro n s' hs
    rw [sw_end] at hs
    subst hs
    exact br_t le_512 h
  · intro n i s' hi hs ih
    have hf := dg_mif v hv
    have hl := (hf i hi).1
    refine br_f (lt_512 hi) (xs_mi hv hi ?_)
    refine br_c (fun hc => nm_r (nI_1 i) (ih _ ?_)) (fun hc => ?_)
    · have hc' : dg_mi v i ≤ i := (nI_leI (by omega) (by omega)).mp hc
      rw [hs]
      exact (sw_keep hf hi (by omega)).symm
    · have hc' : i < dg_mi v i := Nat.lt_of_not_le (fun z => hc (nI_le z (by omega)))
      refine xs_sw (i := d * 512 + i) (j := d * 512 + dg_mi v i) (by rw [hs]; exact sw_01 ha) (by omega) (by omega) (nI_add _ _) (nI_add _ _) (nm_r (nI_1 i) (ih _ ?_))
      rw [hs]
      exact sw_swap hf hi hc'
theorem xl_next {post : Int32 → Prop} {after H : Int32} {p : Nat} {s : Nat → Int32} (hp : p < 5)
    (h1 : ∀ t, t < 512 → (¬ nI t ≤ after ∧ ¬ s (p * 512 + t) = 0) → (∀ t', t' < t → ¬ (¬ nI t' ≤ after ∧ ¬ s (p * 512 + t') = 0)) → post (nI t))
    (h0 : (∀ t, t < 512 → ¬ (¬ nI t ≤ after ∧ ¬ s (p * 512 + t) = 0)) → post (-2)) :
    ∃ n, wX_next_19 post after (nI (p * 512)) H s n 0 := by
  refine loop_0 (fun n i (_ : Unit) => wX_next_19 post after (nI (p * 512)) H s n (nI i)) (fun i _ => ∀ t, t < i → ¬ (¬ nI t ≤ after ∧ ¬ s (p * 512 + t) = 0)) 512 () lt_0 ?_ ?_
  · intro n _ hs
    exact br_t le_512 (h0 hs)
  · intro n i _ hi hs ih
    have hb : p * 512 + i < 2560 := by omega
    refine br_f (lt_512 hi) (br_c (fun hc => nm_r (nI_1 i) (ih () (lt_s hs (fun z => z.1 hc)))) (fun hc => ⟨ce_in hb, br_c (fun hz => nm_r (nI_1 i) (ih () (lt_s hs (fun z => z.2 ?_)))) (fun hz => h1 i hi ⟨hc, ?_⟩ hs)⟩))
    · rw [ce_cl hb] at hz; exact hz
    · rw [ce_cl hb] at hz; exact hz
theorem xl_sub {post : Int32 → Prop} {H : Int32} {p q : Nat} {s : Nat → Int32} (hp : p < 5) (hq : q < 5)
    (h1 : (∀ t, t < 512 → ¬ s (p * 512 + t) = 0 → ¬ s (q * 512 + t) = 0) → post 1)
    (h0 : (∃ t, t < 512 ∧ ¬ s (p * 512 + t) = 0 ∧ s (q * 512 + t) = 0) → post 0) : wpX_isSubset post (H, s) (nI p) (nI q) := by
  refine nm_r (ti_x p) (nm_r (ti_x q) ?_)
  refine loop_0 (fun n i (_ : Unit) => wX_isSubset_16 post (nI (p * 512)) (nI (q * 512)) H s n (nI i)) (fun i _ => ∀ t, t < i → ¬ s (p * 512 + t) = 0 → ¬ s (q * 512 + t) = 0) 512 () lt_0 ?_ ?_
  · intro n _ hs
    exact br_t le_512 (h1 hs)
  · intro n i _ hi hs ih
    have hb : p * 512 + i < 2560 := by omega
    have hb2 : q * 512 + i < 2560 := by omega
    refine br_f (lt_512 hi) ⟨ce_in hb, br_c (fun hc => ?_) (fun hc => ⟨ce_in hb2, br_c (fun hz => ?_) (fun hz => ?_)⟩)⟩
    · rw [ce_cl hb] at hc
      exact nm_r (nI_1 i) (ih () (lt_s hs (fun z => absurd hc z)))
    · rw [ce_cl hb] at hc
      rw [ce_cl hb2] at hz
      exact h0 ⟨i, hi, hc, hz⟩
    · rw [ce_cl hb2] at hz
      exact nm_r (nI_1 i) (ih () (lt_s hs (fun _ => hz)))
theorem xl_dep {post : Int32 → Prop} {H : Int32} {p v : Nat} {s : Nat → Int32} (hp : p < 5) (hv : v < 3)
    (h1 : (∃ n, n < 512 ∧ dg_v v n = 0 ∧ (∃ x, x < 8 ∧ ¬ s (p * 512 + n + x * 8 ^ v) = 0) ∧ (∃ x, x < 8 ∧ s (p * 512 + n + x * 8 ^ v) = 0)) → post 1)
    (h0 : (∀ n, n < 512 → dg_v v n = 0 → (∀ x, x < 8 → s (p * 512 + n + x * 8 ^ v) = 0) ∨ (∀ x, x < 8 → ¬ s (p * 512 + n + x * 8 ^ v) = 0)) → post 0) :
    ∃ n, wX_depends_35 post (nI v) (nI (p * 512)) (nI (8 ^ v)) H s n 0 := by
  refine loop_0 (fun n i (_ : Unit) => wX_depends_35 post (nI v) (nI (p * 512)) (nI (8 ^ v)) H s n (nI i)) (fun i _ => ∀ n, n < i → dg_v v n = 0 → (∀ x, x < 8 → s (p * 512 + n + x * 8 ^ v) = 0) ∨ (∀ x, x < 8 → ¬ s (p * 512 + n + x * 8 ^ v) = 0)) 512 () lt_0 ?_ ?_
  · intro n _ hs
    exact br_t le_512 (h0 hs)
  · intro n i _ hi hs ih
    refine br_f (lt_512 hi) (xs_val hv hi ?_)
    by_cases hz : dg_v v i = 0
    · have hb := qu_b hv hi hz
      refine br_t (by rw [hz]; exact nI_0) ?_
      rw [nI_add]
      refine xl_hol (by omega) ?_
      have hl := cn_le (fun x => s (p * 512 + i + x * 8 ^ v)) 8
      have hq1 := cn_pos (p := fun x => s (p * 512 + i + x * 8 ^ v)) 8
      have hq8 := cn_full (p := fun x => s (p * 512 + i + x * 8 ^ v)) 8
      refine br_c (fun hc => nm_r (nI_1 i) (ih () (lt_s hs (fun _ => Or.inl ?_)))) (fun hc => br_c (fun hd => nm_r (nI_1 i) (ih () (lt_s hs (fun _ => Or.inr ?_)))) (fun hd => h1 ⟨i, hi, hz, ?_, ?_⟩))
      · have hc' := (nI_leI (b := 0) (by omega) (by decide)).mp hc
        intro x hx
        refine Classical.byContradiction (fun z => ?_)
        have := hq1.mpr ⟨x, hx, z⟩
        omega
      · have hd' := (nI_leI (a := 8) (by decide) (by omega)).mp hd
        exact hq8.mp hd'
      · have hc' : ¬ cn_t (fun x => s (p * 512 + i + x * 8 ^ v)) 8 ≤ 0 := fun z => hc (nI_le (b := 0) z (by decide))
        exact hq1.mp (by omega)
      · have hd' : ¬ 8 ≤ cn_t (fun x => s (p * 512 + i + x * 8 ^ v)) 8 := fun z => hd (nI_le (a := 8) z (by omega))
        refine Classical.byContradiction (fun z => hd' (hq8.mpr (fun x hx y => z ⟨x, hx, y⟩)))
    · refine br_f (fun z => hz ((nI_eq (b := 0) (by have := dg_lt hv hi; omega) (by decide)).mp z)) (nm_r (nI_1 i) (ih () (lt_s hs (fun z => absurd z hz))))
theorem xl_taken {post : Int32 → Prop} {H : Int32} {p v x : Nat} {s : Nat → Int32} (hp : p < 5) (hv : v < 3) (hx : x < 8)
    (h : post (pb_of (∃ t, t < 512 ∧ dg_v v t = x ∧ ¬ s (p * 512 + t) = 0))) : wpX_isTaken post (H, s) (nI p) (nI v) (nI x) := by
  refine nm_r (ti_x p) ?_
  refine loop_0 (fun n i (_ : Unit) => wX_isTaken_10 post (nI v) (nI x) (nI (p * 512)) H s n (nI i)) (fun i _ => ∀ t, t < i → ¬ (dg_v v t = x ∧ ¬ s (p * 512 + t) = 0)) 512 () lt_0 ?_ ?_
  · intro n _ hs
    rw [pb_f (fun ⟨t, ht, z⟩ => hs t ht z)] at h
    exact br_t le_512 h
  · intro n i _ hi hs ih
    have hb : p * 512 + i < 2560 := by omega
    have hw := dg_lt hv hi
    refine br_f (lt_512 hi) (xs_val hv hi ?_)
    refine br_c (fun hc => ⟨ce_in hb, br_c (fun hz => ?_) (fun hz => ?_)⟩) (fun hc => ?_)
    · rw [ce_cl hb] at hz
      exact nm_r (nI_1 i) (ih () (lt_s hs (fun y => y.2 hz)))
    · rw [ce_cl hb] at hz
      have hc' := (nI_eq (by omega) (by omega)).mp hc
      rw [pb_t ⟨i, hi, hc', hz⟩] at h
      exact h
    · exact nm_r (nI_1 i) (ih () (lt_s hs (fun y => hc (congrArg nI y.1))))
theorem xl_vals {post : Int32 → Prop} {H : Int32} {p v : Nat} {s : Nat → Int32} (hp : p < 5) (hv : v < 3)
    (h : post (nI (cn_t (fun x => pb_of (∃ t, t < 512 ∧ dg_v v t = x ∧ ¬ s (p * 512 + t) = 0)) 8))) : ∃ n, wX_values_25 post (nI p) (nI v) H s n 0 0 := by
  refine loop_0 (fun n i c => wX_values_25 post (nI p) (nI v) H s n c (nI i)) (fun i c => c = nI (cn_t (fun x => pb_of (∃ t, t < 512 ∧ dg_v v t = x ∧ ¬ s (p * 512 + t) = 0)) i)) 8 0 rfl ?_ ?_
  · intro n c hc
    subst hc
    exact br_t le_8 h
  · intro n i c hi hc ih
    refine br_f (lt_8 hi) (xl_taken hp hv hi ?_)
    refine br_c (fun hz => nm_r (nI_1 i) (ih _ ?_)) (fun hz => nm_e (nm_r (nI_1 i) (ih _ ?_)))
    · rw [hc, cn_z (p := fun x => pb_of (∃ t, t < 512 ∧ dg_v v t = x ∧ ¬ s (p * 512 + t) = 0)) hz]
    · rw [hc, cn_o (p := fun x => pb_of (∃ t, t < 512 ∧ dg_v v t = x ∧ ¬ s (p * 512 + t) = 0)) hz, nI_1]
end
section
/-! Y's loops, each against its pure picture -/
theorem yl_atMost {post : Int32 → SY → Prop} {a b c k : Int32} {d : Nat} {s o : Nat → Int32} (hd : d < 5)
    (h : post (nI (d + 1)) (nI (d + 1), fi_l s (d * 512) 512 (fun t => pb_of (¬ k < ws_i a b c (nI t))), o)) :
    ∃ n, wY_atMost_67 post a b c k (nI (d * 512)) (nI d) n 0 s o := by
  refine loop_0 (fun n i s' => wY_atMost_67 post a b c k (nI (d * 512)) (nI d) n (nI i) s' o) (fun i s' => s' = fi_l s (d * 512) i (fun t => pb_of (¬ k < ws_i a b c (nI t)))) 512 s fi_0.symm ?_ ?_
  · intro n s' hs
    subst hs
    exact br_t le_512 (nm_r (nI_1 d) h)
  · intro n i s' hi hs ih
    refine br_f (lt_512 hi) (ys_ws ?_)
    refine br_c (fun hc => ⟨ce_in (by omega), ?_⟩) (fun hc => ⟨ce_in (by omega), ?_⟩)
    · exact nm_r (st_s hs (by omega) (ng_0 rfl (fun z => z hc))) (nm_r (nI_1 i) (ih _ rfl))
    · exact nm_r (st_s hs (by omega) (ng_1 rfl hc)) (nm_r (nI_1 i) (ih _ rfl))
theorem yl_congruent {post : Int32 → SY → Prop} {a b c m r : Int32} {d : Nat} {s o : Nat → Int32} (hd : d < 5) (hm : ¬ m = 0)
    (h : post (nI (d + 1)) (nI (d + 1), fi_l s (d * 512) 512 (fun t => pb_of ((ws_i a b c (nI t) - r) - (ws_i a b c (nI t) - r) / m * m = 0)), o)) :
    ∃ n, wY_congruent_92 post m r a b c (nI (d * 512)) (nI d) n 0 s o := by
  refine loop_0 (fun n i s' => wY_congruent_92 post m r a b c (nI (d * 512)) (nI d) n (nI i) s' o) (fun i s' => s' = fi_l s (d * 512) i (fun t => pb_of ((ws_i a b c (nI t) - r) - (ws_i a b c (nI t) - r) / m * m = 0))) 512 s fi_0.symm ?_ ?_
  · intro n s' hs
    subst hs
    exact br_t le_512 (nm_r (nI_1 d) h)
  · intro n i s' hi hs ih
    refine br_f (lt_512 hi) (ys_ws ?_)
    refine ⟨hm, br_c (fun hc => ⟨ce_in (by omega), ?_⟩) (fun hc => ⟨ce_in (by omega), ?_⟩)⟩
    · exact nm_r (st_s hs (by omega) (ng_1 rfl hc)) (nm_r (nI_1 i) (ih _ rfl))
    · exact nm_r (st_s hs (by omega) (ng_0 rfl hc)) (nm_r (nI_1 i) (ih _ rfl))
theorem yl_negate {post : Int32 → SY → Prop} {d : Nat} {s o : Nat → Int32} (hd : d < 5)
    (h : post (nI (d + 1)) (nI (d + 1), fi_l s (d * 512) 512 (fun t => pb_of (s (d * 512 + t) = 0)), o)) : ∃ n, wY_connect_47 post (nI (d * 512)) (nI (d + 1)) n 0 s o := by
  refine loop_0 (fun n i s' => wY_connect_47 post (nI (d * 512)) (nI (d + 1)) n (nI i) s' o) (fun i s' => s' = fi_l s (d * 512) i (fun t => pb_of (s (d * 512 + t) = 0))) 512 s fi_0.symm ?_ ?_
  · intro n s' hs
    subst hs
    exact br_t le_512 h
  · intro n i s' hi hs ih
    have hr : s' (nI (d * 512) + nI i).toNatClampNeg = s (d * 512 + i) := rd_f hs (by omega)
    refine br_f (lt_512 hi) ⟨ce_in (by omega), br_c (fun hc => ⟨ce_in (by omega), ?_⟩) (fun hc => ⟨ce_in (by omega), ?_⟩)⟩
    · exact nm_r (st_s hs (by omega) (ng_1 rfl (hr.symm.trans hc))) (nm_r (nI_1 i) (ih _ rfl))
    · exact nm_r (st_s hs (by omega) (ng_0 rfl (fun z => hc (hr.trans z)))) (nm_r (nI_1 i) (ih _ rfl))
theorem yl_join {post : Int32 → SY → Prop} {d k : Nat} {s o : Nat → Int32} (hd : d < 4) (h1 : 1 ≤ k) (h4 : k ≤ 4)
    (h : post (nI (d + 1)) (nI (d + 1), fi_l s (d * 512) 512 (fun t => pb_of (jo_p k (s (d * 512 + t)) (s ((d + 1) * 512 + t)))), o)) :
    ∃ n, wY_connect_103 post (nI k) (nI ((d + 1) * 512)) (nI (d * 512)) (nI (d + 2)) n 0 s o := by
  refine loop_0 (fun n i s' => wY_connect_103 post (nI k) (nI ((d + 1) * 512)) (nI (d * 512)) (nI (d + 2)) n (nI i) s' o) (fun i s' => s' = fi_l s (d * 512) i (fun t => pb_of (jo_p k (s (d * 512 + t)) (s ((d + 1) * 512 + t))))) 512 s fi_0.symm ?_ ?_
  · intro n s' hs
    subst hs
    exact br_t le_512 (nm_r (nI_pred (d + 1)) h)
  · intro n i s' hi hs ih
    have hr : s' (nI (d * 512) + nI i).toNatClampNeg = s (d * 512 + i) := rd_f hs (by omega)
    have hr2 : s' (nI ((d + 1) * 512) + nI i).toNatClampNeg = s ((d + 1) * 512 + i) := rd_o hs (by omega) (by omega)
    refine br_f (lt_512 hi) ⟨ce_in (by omega), ce_in (by omega), ?_⟩
    refine ys_jo h1 h4 ⟨ce_in (by omega), ?_⟩
    exact nm_r (st_s hs (by omega) (by rw [hr, hr2]; exact bo_v (pb_01 _))) (nm_r (nI_1 i) (ih _ rfl))
theorem yl_copy {post : Int32 → SY → Prop} {d p : Nat} {s o : Nat → Int32} (hd : d < 5) (hp : p < d) (ha : bo_a s)
    (h : post (nI (d + 1)) (nI (d + 1), fi_l s (d * 512) 512 (fun t => s (p * 512 + t)), o)) :
    ∃ n, wY_copy_23 post (nI p) (nI d) n 0 s o := by
  refine loop_0 (fun n i s' => wY_copy_23 post (nI p) (nI d) n (nI i) s' o) (fun i s' => s' = fi_l s (d * 512) i (fun t => s (p * 512 + t))) 512 s fi_0.symm ?_ ?_
  · intro n s' hs
    subst hs
    exact br_t le_512 (nm_r (nI_1 d) h)
  · intro n i s' hi hs ih
    have hr : s' (nI (p * 512) + nI i).toNatClampNeg = s (p * 512 + i) := rd_o hs (by omega) (by omega)
    refine br_f (lt_512 hi) (ys_at (d := d) (by omega) rfl (ys_at (d := p) (by omega) rfl ⟨ce_in (by omega), ce_in (by omega), ?_⟩))
    exact nm_r (st_s hs (by omega) (by rw [hr]; exact bo_v (ha _))) (nm_r (nI_1 i) (ih _ rfl))
theorem yl_keep {post : SY → Prop} {d : Nat} {s o : Nat → Int32} (hd : d < 5) (ha : bo_a s)
    (h : post (nI (d + 1), s, fi_l o 0 512 (fun t => s (d * 512 + t)))) : wpY_keepTop post (nI (d + 1), s, o) := by
  unfold wpY_keepTop
  dsimp only
  refine ys_at (d := d) (by omega) (nI_pred d) ?_
  refine loop_0 (fun n i o' => wY_keepTop_13 post (nI (d * 512)) (nI (d + 1)) n (nI i) s o') (fun i o' => o' = fi_l o 0 i (fun t => s (d * 512 + t))) 512 o fi_0.symm ?_ ?_
  · intro n s' hs
    subst hs
    exact br_t le_512 h
  · intro n i o' hi hs ih
    refine br_f (lt_512 hi) ⟨ce_in (by omega), vp_in_nI hi (by decide), nm_e (nm_r (nI_1 i) (ih _ ?_))⟩
    rw [ce_cl (by omega), nI_clamp (by omega), bo_v (ha _), hs]
    have e := fi_s (a := o) (T := 0) (n := i) (g := fun t => s (d * 512 + t)) (x := s (d * 512 + i)) rfl
    rw [Nat.zero_add] at e
    exact e
theorem yl_ct {post : Int32 → Prop} {p : Nat} {D P : Int32} {s o : Nat → Int32} (hp : p < 5) (e : P = nI p)
    (h : post (nI (cn_t (fun t => s (p * 512 + t)) 512))) : wpY_countAt post (D, s, o) P := by
  subst e
  refine loop_0 (fun n i c => wY_countAt_4 post (nI p) D s o n c (nI i)) (fun i c => c = nI (cn_t (fun t => s (p * 512 + t)) i)) 512 0 rfl ?_ ?_
  · intro n c hc
    subst hc
    exact br_t le_512 h
  · intro n i c hi hc ih
    have hb : p * 512 + i < 2560 := by omega
    refine br_f (lt_512 hi) (ys_at (d := p) (by omega) rfl ⟨ce_in hb, br_c (fun hz => ?_) (fun hz => ?_)⟩)
    · rw [ce_cl hb] at hz
      refine nm_r (nI_1 i) (ih _ ?_)
      rw [hc, cn_z (p := fun t => s (p * 512 + t)) hz]
    · rw [ce_cl hb] at hz
      refine nm_e (nm_r (nI_1 i) (ih _ ?_))
      rw [hc, cn_o (p := fun t => s (p * 512 + t)) hz, nI_1]
/-- Y's answer at one number: some x whose cell is like 'some' -/
noncomputable def qy_g (s : Nat → Int32) (T v : Nat) (some : Int32) (t : Nat) : Int32 := pb_of (pb_of (∃ x, x < 8 ∧ s (T + (dg_b v t + x * 8 ^ v)) = some) = some)
theorem yl_found {post : Int32 → SY → Prop} {J : Int32 → (Nat → Int32) → (Nat → Int32) → Prop} {d v t : Nat} {some D : Int32} {s s' o : Nat → Int32} (hd : d < 5) (hv : v < 3) (ht : t < 512)
    (h : J (nI (t + 1)) (upd s' (d * 512 + t) (qy_g s (d * 512) v some t)) (fi_l o 0 512 (fun t => s (d * 512 + t)))) :
    ∃ n, wY_quantify_52 post J (nI v) some (nI (d * 512)) (nI t) D s' (fi_l o 0 512 (fun t => s (d * 512 + t))) n 0 0 := by
  refine loop_0 (fun n i c => wY_quantify_52 post J (nI v) some (nI (d * 512)) (nI t) D s' (fi_l o 0 512 (fun t => s (d * 512 + t))) n c (nI i)) (fun i c => c = pb_of (∃ x, x < i ∧ s (d * 512 + (dg_b v t + x * 8 ^ v)) = some)) 8 0 (pb_f (fun ⟨x, hx, _⟩ => by omega)).symm ?_ ?_
  · intro n c hc
    refine br_t le_8 (br_c (fun hz => ⟨ce_in (by omega), nm_r (e' := upd s' (d * 512 + t) (qy_g s (d * 512) v some t)) ?_ (nm_r (nI_1 t) h)⟩) (fun hz => ⟨ce_in (by omega), nm_r (e' := upd s' (d * 512 + t) (qy_g s (d * 512) v some t)) ?_ (nm_r (nI_1 t) h)⟩))
    · rw [ce_cl (by omega)]
      rw [hc] at hz
      exact congrArg (upd s' (d * 512 + t)) (ng_1 rfl hz)
    · rw [ce_cl (by omega)]
      rw [hc] at hz
      exact congrArg (upd s' (d * 512 + t)) (ng_0 rfl hz)
  · intro n i c hi hc ih
    have hl := dg_l hv ht hi
    have hr : fi_l o 0 512 (fun t => s (d * 512 + t)) (nI (dg_b v t + i * 8 ^ v)).toNatClampNeg = s (d * 512 + (dg_b v t + i * 8 ^ v)) := by
      rw [nI_clamp (by omega)]
      have e := fi_in (a := o) (T := 0) (n := 512) (g := fun t => s (d * 512 + t)) hl
      rw [Nat.zero_add] at e
      exact e
    refine br_f (lt_8 hi) (ys_with hv ht hi ⟨vp_in_nI hl (by decide), br_c (fun hz => nm_r (nI_1 i) (ih _ ?_)) (fun hz => nm_r (nI_1 i) (ih _ ?_))⟩)
    · rw [hr] at hz
      exact (pb_t ⟨i, Nat.lt_succ_self i, hz⟩).symm
    · rw [hr] at hz
      rw [hc]
      refine pb_c ⟨fun ⟨x, hx, z⟩ => ⟨x, by omega, z⟩, fun ⟨x, hx, z⟩ => ⟨x, ?_, z⟩⟩
      have : x ≠ i := fun w => hz (w ▸ z)
      omega
theorem yl_quant {post : Int32 → SY → Prop} {d v : Nat} {some : Int32} {s o : Nat → Int32} (hd : d < 5) (hv : v < 3)
    (h : post (nI (cn_t (fun t => fi_l s (d * 512) 512 (qy_g s (d * 512) v some) (d * 512 + t)) 512)) (nI (d + 1), fi_l s (d * 512) 512 (qy_g s (d * 512) v some), fi_l o 0 512 (fun t => s (d * 512 + t)))) :
    ∃ n, wY_quantify_38 post (nI v) some (nI (d * 512)) (nI (d + 1)) n 0 s (fi_l o 0 512 (fun t => s (d * 512 + t))) := by
  refine loop_0 (fun n i s' => wY_quantify_38 post (nI v) some (nI (d * 512)) (nI (d + 1)) n (nI i) s' (fi_l o 0 512 (fun t => s (d * 512 + t)))) (fun i s' => s' = fi_l s (d * 512) i (qy_g s (d * 512) v some)) 512 s fi_0.symm ?_ ?_
  · intro n s' hs
    subst hs
    exact br_t le_512 (yl_ct hd (nI_pred d) h)
  · intro n i s' hi hs ih
    refine br_f (lt_512 hi) (yl_found hd hv hi (ih _ ?_))
    rw [hs]
    exact fi_s rfl
theorem yl_exch {post : Int32 → SY → Prop} {d u v : Nat} {s o : Nat → Int32} (hd : d < 5) (hu : u < 3) (hv : v < 3) (ha : bo_a s)
    (h : post 0 (nI (d + 1), fi_l s (d * 512) 512 (fun t => s (d * 512 + dg_ex u v t)), fi_l o 0 512 (fun t => s (d * 512 + t)))) :
    ∃ n, wY_exchange_46 post (nI u) (nI v) (nI (d * 512)) (nI (d + 1)) n 0 s (fi_l o 0 512 (fun t => s (d * 512 + t))) := by
  refine loop_0 (fun n i s' => wY_exchange_46 post (nI u) (nI v) (nI (d * 512)) (nI (d + 1)) n (nI i) s' (fi_l o 0 512 (fun t => s (d * 512 + t)))) (fun i s' => s' = fi_l s (d * 512) i (fun t => s (d * 512 + dg_ex u v t))) 512 s fi_0.symm ?_ ?_
  · intro n s' hs
    subst hs
    exact br_t le_512 h
  · intro n i s' hi hs ih
    have hl : dg_ex u v i < 512 := (dg_exf u hu v hv i hi).1
    have h1 : dg_b u i + dg_v v i * 8 ^ u < 512 := dg_l hu hi (dg_lt hv hi)
    have hr : fi_l o 0 512 (fun t => s (d * 512 + t)) (nI (dg_ex u v i)).toNatClampNeg = s (d * 512 + dg_ex u v i) := by
      rw [nI_clamp (by omega)]
      have e := fi_in (a := o) (T := 0) (n := 512) (g := fun t => s (d * 512 + t)) hl
      rw [Nat.zero_add] at e
      exact e
    refine br_f (lt_512 hi) (ys_val hu hi (ys_val hv hi (ys_with hu hi (dg_lt hv hi) (ys_with hv h1 (dg_lt hu hi) ?_))))
    refine ⟨vp_in_nI hl (by decide), ce_in (by omega), ?_⟩
    exact nm_r (st_s hs (by omega) ((congrArg (vp_nar .boolean) hr).trans (bo_v (ha _)))) (nm_r (nI_1 i) (ih _ rfl))
theorem yl_mirr {post : Int32 → SY → Prop} {d v : Nat} {s o : Nat → Int32} (hd : d < 5) (hv : v < 3) (ha : bo_a s)
    (h : post 0 (nI (d + 1), fi_l s (d * 512) 512 (fun t => s (d * 512 + dg_mi v t)), fi_l o 0 512 (fun t => s (d * 512 + t)))) :
    ∃ n, wY_mirror_37 post (nI v) (nI (d * 512)) (nI (d + 1)) n 0 s (fi_l o 0 512 (fun t => s (d * 512 + t))) := by
  refine loop_0 (fun n i s' => wY_mirror_37 post (nI v) (nI (d * 512)) (nI (d + 1)) n (nI i) s' (fi_l o 0 512 (fun t => s (d * 512 + t)))) (fun i s' => s' = fi_l s (d * 512) i (fun t => s (d * 512 + dg_mi v t))) 512 s fi_0.symm ?_ ?_
  · intro n s' hs
    subst hs
    exact br_t le_512 h
  · intro n i s' hi hs ih
    have hw := dg_lt hv hi
    have hl : dg_mi v i < 512 := (dg_mif v hv i hi).1
    have hr : fi_l o 0 512 (fun t => s (d * 512 + t)) (nI (dg_mi v i)).toNatClampNeg = s (d * 512 + dg_mi v i) := by
      rw [nI_clamp (by omega)]
      have e := fi_in (a := o) (T := 0) (n := 512) (g := fun t => s (d * 512 + t)) hl
      rw [Nat.zero_add] at e
      exact e
    have e7 : 7 - nI (dg_v v i) = nI (7 - dg_v v i) := pk_sub (a := 7) (by omega)
    refine br_f (lt_512 hi) (ys_val hv hi ?_)
    rw [e7]
    refine ys_with hv hi (by omega) ?_
    refine ⟨vp_in_nI hl (by decide), ce_in (by omega), ?_⟩
    exact nm_r (st_s hs (by omega) ((congrArg (vp_nar .boolean) hr).trans (bo_v (ha _)))) (nm_r (nI_1 i) (ih _ rfl))
theorem yl_next {post : Int32 → Prop} {after D : Int32} {p : Nat} {s o : Nat → Int32} (hp : p < 5)
    (h1 : ∀ t, t < 512 → (¬ nI t ≤ after ∧ ¬ s (p * 512 + t) = 0) → (∀ t', t' < t → ¬ (¬ nI t' ≤ after ∧ ¬ s (p * 512 + t') = 0)) → post (nI t))
    (h0 : (∀ t, t < 512 → ¬ (¬ nI t ≤ after ∧ ¬ s (p * 512 + t) = 0)) → post (-2)) :
    ∃ n, wY_next_12 post (nI p) after D s o n 0 := by
  refine loop_0 (fun n i (_ : Unit) => wY_next_12 post (nI p) after D s o n (nI i)) (fun i _ => ∀ t, t < i → ¬ (¬ nI t ≤ after ∧ ¬ s (p * 512 + t) = 0)) 512 () lt_0 ?_ ?_
  · intro n _ hs
    exact br_t le_512 (h0 hs)
  · intro n i _ hi hs ih
    have hb : p * 512 + i < 2560 := by omega
    refine br_f (lt_512 hi) (br_c (fun hc => nm_r (nI_1 i) (ih () (lt_s hs (fun z => z.1 hc)))) (fun hc => ys_at (d := p) (by omega) rfl ⟨ce_in hb, br_c (fun hz => nm_r (nI_1 i) (ih () (lt_s hs (fun z => z.2 ?_)))) (fun hz => h1 i hi ⟨hc, ?_⟩ hs)⟩))
    · rw [ce_cl hb] at hz; exact hz
    · rw [ce_cl hb] at hz; exact hz
theorem yl_same {post : Int32 → Prop} {D : Int32} {p q : Nat} {s o : Nat → Int32} (hp : p < 5) (hq : q < 5)
    (h1 : (∀ t, t < 512 → s (p * 512 + t) = s (q * 512 + t)) → post 1)
    (h0 : (∃ t, t < 512 ∧ ¬ s (p * 512 + t) = s (q * 512 + t)) → post 0) : ∃ n, wY_same_20 post (nI p) (nI q) D s o n 0 := by
  refine loop_0 (fun n i (_ : Unit) => wY_same_20 post (nI p) (nI q) D s o n (nI i)) (fun i _ => ∀ t, t < i → s (p * 512 + t) = s (q * 512 + t)) 512 () lt_0 ?_ ?_
  · intro n _ hs
    exact br_t le_512 (h1 hs)
  · intro n i _ hi hs ih
    have hb : p * 512 + i < 2560 := by omega
    have hb2 : q * 512 + i < 2560 := by omega
    refine br_f (lt_512 hi) (ys_at (d := p) (by omega) rfl ⟨ce_in hb, ys_at (d := q) (by omega) rfl ⟨ce_in hb2, br_c (fun hc => ?_) (fun hc => ?_)⟩⟩)
    · rw [ce_cl hb, ce_cl hb2] at hc
      exact nm_r (nI_1 i) (ih () (lt_s hs hc))
    · rw [ce_cl hb, ce_cl hb2] at hc
      exact h0 ⟨i, hi, hc⟩
theorem yl_impl {post : Int32 → Prop} {D : Int32} {p q : Nat} {s o : Nat → Int32} (hp : p < 5) (hq : q < 5)
    (h1 : (∀ t, t < 512 → ¬ s (p * 512 + t) = 0 → ¬ s (q * 512 + t) = 0) → post 1)
    (h0 : (∃ t, t < 512 ∧ ¬ s (p * 512 + t) = 0 ∧ s (q * 512 + t) = 0) → post 0) : ∃ n, wY_implied_20 post (nI p) (nI q) D s o n 0 := by
  refine loop_0 (fun n i (_ : Unit) => wY_implied_20 post (nI p) (nI q) D s o n (nI i)) (fun i _ => ∀ t, t < i → ¬ s (p * 512 + t) = 0 → ¬ s (q * 512 + t) = 0) 512 () lt_0 ?_ ?_
  · intro n _ hs
    exact br_t le_512 (h1 hs)
  · intro n i _ hi hs ih
    have hb : p * 512 + i < 2560 := by omega
    have hb2 : q * 512 + i < 2560 := by omega
    refine br_f (lt_512 hi) (ys_at (d := p) (by omega) rfl ⟨ce_in hb, br_c (fun hc => ?_) (fun hc => ys_at (d := q) (by omega) rfl ⟨ce_in hb2, br_c (fun hz => ?_) (fun hz => ?_)⟩)⟩)
    · rw [ce_cl hb] at hc
      exact nm_r (nI_1 i) (ih () (lt_s hs (fun z => absurd hc z)))
    · rw [ce_cl hb] at hc
      rw [ce_cl hb2] at hz
      exact h0 ⟨i, hi, hc, hz⟩
    · rw [ce_cl hb2] at hz
      exact nm_r (nI_1 i) (ih () (lt_s hs (fun _ => hz)))
theorem yl_dep {post : Int32 → Prop} {D : Int32} {p v : Nat} {s o : Nat → Int32} (hp : p < 5) (hv : v < 3)
    (h1 : (∃ t, t < 512 ∧ ¬ s (p * 512 + t) = s (p * 512 + dg_b v t)) → post 1)
    (h0 : (∀ t, t < 512 → s (p * 512 + t) = s (p * 512 + dg_b v t)) → post 0) : ∃ n, wY_depends_23 post (nI p) (nI v) D s o n 0 := by
  refine loop_0 (fun n i (_ : Unit) => wY_depends_23 post (nI p) (nI v) D s o n (nI i)) (fun i _ => ∀ t, t < i → s (p * 512 + t) = s (p * 512 + dg_b v t)) 512 () lt_0 ?_ ?_
  · intro n _ hs
    exact br_t le_512 (h0 hs)
  · intro n i _ hi hs ih
    have hl := dg_bl hv hi
    have hb : p * 512 + i < 2560 := by omega
    have hb2 : p * 512 + dg_b v i < 2560 := by omega
    refine br_f (lt_512 hi) (ys_with (x := 0) hv hi (by decide) ?_)
    rw [Nat.zero_mul, Nat.add_zero]
    refine ys_at (d := p) (by omega) rfl ⟨ce_in hb, ys_at (d := p) (by omega) rfl ⟨ce_in hb2, br_c (fun hc => ?_) (fun hc => ?_)⟩⟩
    · rw [ce_cl hb, ce_cl hb2] at hc
      exact nm_r (nI_1 i) (ih () (lt_s hs hc))
    · rw [ce_cl hb, ce_cl hb2] at hc
      exact h1 ⟨i, hi, hc⟩
theorem yl_bits {post : Int32 → Prop} {D : Int32} {m : Nat} {s o : Nat → Int32} (hm : m < 256)
    (h : post (nI (cn_t (fun x => nI (if m.testBit x = true then 1 else 0)) 8))) : ∃ n, wY_values_74 post (nI m) D s o n 0 0 := by
  refine loop_0 (fun n i c => wY_values_74 post (nI m) D s o n c (nI i)) (fun i c => c = nI (cn_t (fun x => nI (if m.testBit x = true then 1 else 0)) i)) 8 0 rfl ?_ ?_
  · intro n c hc
    subst hc
    exact br_t le_8 h
  · intro n i c hi hc ih
    refine br_f (lt_8 hi) (nm_e (nm_r (nI_1 i) (ih _ ?_)))
    rw [dn_bit m hm i hi, hc, nI_add]
    by_cases hb : m.testBit i = true
    · rw [cn_o (p := fun x => nI (if m.testBit x = true then 1 else 0)) (n := i) (by show ¬ nI (if m.testBit i = true then 1 else 0) = 0; rw [if_pos hb]; decide), if_pos hb]
    · rw [cn_z (p := fun x => nI (if m.testBit x = true then 1 else 0)) (n := i) (by show nI (if m.testBit i = true then 1 else 0) = 0; rw [if_neg hb]; exact nI_0), if_neg hb, Nat.add_zero]
theorem yl_vals {post : Int32 → Prop} {D : Int32} {p v : Nat} {s o : Nat → Int32} (hp : p < 5) (hv : v < 3)
    (h : post (nI (cn_t (fun x => pb_of (∃ t, t < 512 ∧ dg_v v t = x ∧ ¬ s (p * 512 + t) = 0)) 8))) : ∃ n, wY_values_26 post (nI p) (nI v) D s o n 0 0 := by
  refine loop_0 (fun n i c => wY_values_26 post (nI p) (nI v) D s o n c (nI i)) (fun i c => ∃ m, m < 256 ∧ c = nI m ∧ ∀ x, x < 8 → (m.testBit x = true ↔ ∃ t, t < i ∧ dg_v v t = x ∧ ¬ s (p * 512 + t) = 0)) 512 0 ⟨0, by decide, rfl, ?_⟩ ?_ ?_
  · intro x hx
    rw [Nat.zero_testBit]
    exact ⟨fun z => absurd z (by decide), fun ⟨t, ht, _⟩ => absurd ht (Nat.not_lt_zero t)⟩
  · intro n c hc
    obtain ⟨m, hm, e, hb⟩ := hc
    subst e
    refine br_t le_512 (yl_bits hm ?_)
    rw [cn_i (q := fun x => pb_of (∃ t, t < 512 ∧ dg_v v t = x ∧ ¬ s (p * 512 + t) = 0)) 8 (fun x hx => ?_)]
    · exact h
    · show nI (if m.testBit x = true then 1 else 0) = 0 ↔ pb_of _ = 0
      rw [pb_z, ← hb x hx]
      by_cases w : m.testBit x = true
      · rw [if_pos w]
        exact ⟨fun z => absurd z (by decide), fun z => absurd w z⟩
      · rw [if_neg w]
        exact ⟨fun _ => w, fun _ => nI_0⟩
  · intro n i c hi hc ih
    obtain ⟨m, hm, e, hb⟩ := hc
    subst e
    have hbb : p * 512 + i < 2560 := by omega
    have hw := dg_lt hv hi
    refine br_f (lt_512 hi) (ys_at (d := p) (by omega) rfl ⟨ce_in hbb, br_c (fun hz => ?_) (fun hz => ?_)⟩)
    · rw [ce_cl hbb] at hz
      refine nm_r (nI_1 i) (ih _ ⟨m, hm, rfl, fun x hx => ?_⟩)
      rw [hb x hx]
      refine ⟨fun ⟨t, ht, z⟩ => ⟨t, by omega, z⟩, fun ⟨t, ht, z⟩ => ⟨t, ?_, z⟩⟩
      have : t ≠ i := fun y => z.2 (y ▸ hz)
      omega
    · rw [ce_cl hbb] at hz
      have ho := dn_or m hm (dg_v v i) hw
      refine ys_val hv hi (nm_r ho.1 (nm_r (nI_1 i) (ih _ ⟨_, ho.2, rfl, fun x hx => ?_⟩)))
      rw [Nat.testBit_or, Nat.testBit_two_pow, Bool.or_eq_true, hb x hx, decide_eq_true_iff]
      constructor
      · rintro (⟨t, ht, z⟩ | y)
        · exact ⟨t, by omega, z⟩
        · exact ⟨i, Nat.lt_succ_self i, y, hz⟩
      · rintro ⟨t, ht, z⟩
        by_cases y : t = i
        · exact Or.inr (y ▸ z.1)
        · exact Or.inl ⟨t, by omega, z⟩
end
section
/-- one height, one array of cells, each 0 or 1; the reference's spare array is free -/
def i_Rel (_ : Nat) (u : SX) (v : SY) : Prop := ∃ (d : Nat) (a o : Nat → Int32), d ≤ 5 ∧ bo_a a ∧ u = (nI d, a) ∧ v = (nI d, a, o)
theorem i_up {k : Nat} {u : SX} {v : SY} (h : i_Rel k u v) : i_Rel (k + 5) u v := h
theorem re_i {k d : Nat} {a o : Nat → Int32} (hd : d ≤ 5) (ha : bo_a a) : i_Rel k (nI d, a) (nI d, a, o) := ⟨d, a, o, hd, ha, rfl, rfl⟩
theorem i_vc0 : wpX_init (fun u => wpY_init (fun v => i_Rel 0 u v)) := re_i (k := 0) (d := 0) (by decide) (fun _ => Or.inl rfl)
theorem i_vc_depth {k : Nat} {u : SX} {v : SY} (I : i_Rel k u v) (hk : k + 5 ≤ 2560) : wpX_depth (fun r => wpY_depth (fun r' => r' = r ∧ i_Rel (k + 5) u v) v) u := by
  obtain ⟨d, a, o, hd, ha, rfl, rfl⟩ := I
  exact ⟨rfl, re_i hd ha⟩
theorem lt_5 {d : Nat} (h : d < 5) : nI d < 5 := nI_lt (b := 5) h (by decide)
theorem eq_5 {d : Nat} (hd : d ≤ 5) (h : ¬ d < 5) : nI d = 5 ∧ ¬ nI d < 5 := by
  have e : d = 5 := by omega
  subst e
  exact ⟨by decide, by decide⟩
theorem ne_5 {d : Nat} (h : d < 5) : ¬ nI d = 5 := fun z => by
  have := (nI_eq (b := 5) (by omega) (by decide)).mp z
  omega
theorem i_vc_atMost {k : Nat} {u : SX} {v : SY} (I : i_Rel k u v) (hk : k + 5 ≤ 2560) (v1 : Int32) (v2 : Int32) (v3 : Int32) (v4 : Int32) : wpX_atMost (fun r u' => wpY_atMost (fun r' v' => r' = r ∧ i_Rel (k + 5) u' v') v v1 v2 v3 v4) u v1 v2 v3 v4 := by
  obtain ⟨d, a, o, hd, ha, rfl, rfl⟩ := I
  have hI := re_i (k := k + 5) (o := o) hd ha
  unfold wpX_atMost wpY_atMost
  dsimp only
  by_cases c1 : co_ok v1
  · refine xs_co_t c1 (br_f (by decide) ?_)
    by_cases c2 : co_ok v2
    · refine xs_co_t c2 (br_f (by decide) ?_)
      by_cases c3 : co_ok v3
      · refine xs_co_t c3 (br_f (by decide) ?_)
        refine br_c (fun hn => ys_co_t c1 (br_t rfl (ys_co_t c2 (br_t rfl (ys_co_t c3 (br_t rfl (br_t hn ⟨rfl, hI⟩))))))) (fun hn => br_c (fun hp => ?_) (fun hp => ys_co_t c1 (br_t rfl (ys_co_t c2 (br_t rfl (ys_co_t c3 (br_t rfl (br_f hn (br_f hp ⟨rfl, hI⟩)))))))))
        by_cases h5 : d < 5
        · refine br_t (lt_5 h5) (nm_r (ti_x d) (xl_atMost h5 ?_))
          exact ys_co_t c1 (br_t rfl (ys_co_t c2 (br_t rfl (ys_co_t c3 (br_t rfl (br_f hn (br_t hp (br_f (ne_5 h5) (ys_at (by omega) rfl (yl_atMost h5 ⟨rfl, re_i (by omega) (fi_01 ha (fun t _ => pb_01 _))⟩)))))))))) 
        · have e := eq_5 hd h5
          exact br_f e.2 (ys_co_t c1 (br_t rfl (ys_co_t c2 (br_t rfl (ys_co_t c3 (br_t rfl (br_f hn (br_t hp (br_t e.1 ⟨rfl, hI⟩)))))))))
      · exact xs_co_f c3 (br_t rfl (ys_co_t c1 (br_t rfl (ys_co_t c2 (br_t rfl (ys_co_f c3 (br_f (by decide) ⟨rfl, hI⟩)))))))
    · exact xs_co_f c2 (br_t rfl (ys_co_t c1 (br_t rfl (ys_co_f c2 (br_f (by decide) ⟨rfl, hI⟩)))))
  · exact xs_co_f c1 (br_t rfl (ys_co_f c1 (br_f (by decide) ⟨rfl, hI⟩)))
theorem mo_le {m r : Int32} (h2 : ¬ m < 2) (h7 : m ≤ 7) : r < m ↔ r ≤ m - 1 := by
  obtain ⟨j, hj, e⟩ := nI_of2 (x := m) (M := 7) (n := 7) (by decide) (fun z => h2 (Int32.lt_trans z (by decide))) h7
  subst e
  rw [Int32.lt_iff_toInt_lt, Int32.le_iff_toInt_le]
  have h0 : 2 ≤ j := Nat.le_of_not_lt (fun z => h2 (nI_lt (b := 2) z (by decide)))
  obtain ⟨i, rfl⟩ : ∃ i, j = i + 1 := ⟨j - 1, by omega⟩
  rw [nI_pred, nI_toInt (by omega), nI_toInt (by omega)]
  omega
theorem mo_0 {m : Int32} (h2 : ¬ m < 2) : ¬ m = 0 := fun z => h2 (by rw [z]; decide)
theorem i_vc_congruent {k : Nat} {u : SX} {v : SY} (I : i_Rel k u v) (hk : k + 5 ≤ 2560) (v1 : Int32) (v2 : Int32) (v3 : Int32) : wpX_congruent (fun r u' => wpY_congruent (fun r' v' => r' = r ∧ i_Rel (k + 5) u' v') v v1 v2 v3) u v1 v2 v3 := by
  obtain ⟨d, a, o, hd, ha, rfl, rfl⟩ := I
  have hI := re_i (k := k + 5) (o := o) hd ha
  unfold wpX_congruent wpY_congruent
  dsimp only
  refine br_c (fun a1 => br_t a1 ⟨rfl, hI⟩) (fun a1 => br_c (fun a2 => ?_) (fun a2 => br_f a1 (br_f a2 ⟨rfl, hI⟩)))
  refine br_c (fun b1 => br_f a1 (br_t a2 (br_t b1 ⟨rfl, hI⟩))) (fun b1 => br_c (fun b2 => ?_) (fun b2 => br_f a1 (br_t a2 (br_f b1 (br_f b2 ⟨rfl, hI⟩)))))
  have hm := mo_le (r := v3) b1 b2
  refine br_c (fun c1 => br_f a1 (br_t a2 (br_f b1 (br_t b2 (br_t c1 ⟨rfl, hI⟩))))) (fun c1 => br_c (fun c2 => ?_) (fun c2 => br_f a1 (br_t a2 (br_f b1 (br_t b2 (br_f c1 (br_f (fun z => c2 (hm.mpr z)) ⟨rfl, hI⟩)))))))
  by_cases h5 : d < 5
  · refine br_t (lt_5 h5) ⟨by decide, nm_e ⟨by decide, by decide, nm_e ⟨by decide, nm_e (nm_r (ti_x d) (xl_congruent h5 (mo_0 b1) ?_))⟩⟩⟩
    refine br_f a1 (br_t a2 (br_f b1 (br_t b2 (br_f c1 (br_t (hm.mp c2) (br_f (ne_5 h5) ?_))))))
    exact ⟨by decide, nm_e ⟨by decide, by decide, nm_e ⟨by decide, nm_e (ys_at (by omega) rfl (yl_congruent h5 (mo_0 b1) ⟨rfl, re_i (by omega) (fi_01 ha (fun t _ => pb_01 _))⟩))⟩⟩⟩
  · have e := eq_5 hd h5
    exact br_f e.2 (br_f a1 (br_t a2 (br_f b1 (br_t b2 (br_f c1 (br_t (hm.mp c2) (br_t e.1 ⟨rfl, hI⟩)))))))
theorem i_vc_connect {k : Nat} {u : SX} {v : SY} (I : i_Rel k u v) (hk : k + 5 ≤ 2560) (v1 : Int32) : wpX_connect (fun r u' => wpY_connect (fun r' v' => r' = r ∧ i_Rel (k + 5) u' v') v v1) u v1 := by
  obtain ⟨d, a, o, hd, ha, rfl, rfl⟩ := I
  have hI := re_i (k := k + 5) (o := o) hd ha
  unfold wpX_connect wpY_connect
  dsimp only
  refine br_c (fun a1 => br_t a1 ⟨rfl, hI⟩) (fun a1 => br_c (fun a2 => ?_) (fun a2 => br_f a1 (br_f a2 ⟨rfl, hI⟩)))
  obtain ⟨j, hj, e⟩ := nI_of2 (x := v1) (M := 4) (n := 4) (by decide) a1 a2
  subst e
  unfold wX_connect_20 wY_connect_24
  by_cases h0 : j = 0
  · subst h0
    refine br_t nI_0 ?_
    by_cases h1 : 1 ≤ d
    · obtain ⟨e, rfl⟩ : ∃ e, d = e + 1 := ⟨d - 1, by omega⟩
      have hle : (1 : Int32) ≤ nI (e + 1) := nI_le (a := 1) (by omega) (by omega)
      refine br_t hle (br_t nI_0 (xl_negate (by omega) ?_))
      exact br_f a1 (br_t a2 (br_t nI_0 (br_t hle (ys_at (d := e) (by omega) (nI_pred e) (br_t nI_0 (yl_negate (by omega) ⟨rfl, re_i (by omega) (fi_01 ha (fun t _ => pb_01 _))⟩))))))
    · have hle : ¬ (1 : Int32) ≤ nI d := nI_ge (b := 1) (by omega) (by decide)
      exact br_f hle (br_f a1 (br_t a2 (br_t nI_0 (br_f hle ⟨rfl, hI⟩))))
  · have hz : ¬ nI j = 0 := nI_ne0 (by omega) (by omega)
    refine br_f hz ?_
    by_cases h1 : 2 ≤ d
    · obtain ⟨e, rfl⟩ : ∃ e, d = e + 2 := ⟨d - 2, by omega⟩
      have hle : (2 : Int32) ≤ nI (e + 2) := nI_le (a := 2) (by omega) (by omega)
      refine br_t hle (br_f hz (xl_join (by omega) (by omega) hj ?_))
      exact br_f a1 (br_t a2 (br_f hz (br_t hle (ys_at (d := e + 1) (by omega) (nI_pred (e + 1)) (br_f hz (ys_at (d := e) (by omega) (ti_2 e) (yl_join (by omega) (by omega) hj ⟨rfl, re_i (by omega) (fi_01 ha (fun t _ => pb_01 _))⟩)))))))
    · have hle : ¬ (2 : Int32) ≤ nI d := nI_ge (b := 2) (by omega) (by decide)
      exact br_f hle (br_f a1 (br_t a2 (br_f hz (br_f hle ⟨rfl, hI⟩))))
/-! the quantifiers: what the two sides hold of a line -/
theorem qe_1 {s : Nat → Int32} {T v t : Nat} (ha : bo_a s) (hv : v < 3) (ht : t < 512) : qu_g s T v 1 (dg_b v t) = qy_g s T v 1 t := by
  refine pb_c ?_
  have hq := cn_pos (p := fun x => s (T + dg_b v t + x * 8 ^ v)) 8
  have hl := cn_le (fun x => s (T + dg_b v t + x * 8 ^ v)) 8
  have e : (¬ nI (cn_t (fun x => s (T + dg_b v t + x * 8 ^ v)) 8) < 1) ↔ 1 ≤ cn_t (fun x => s (T + dg_b v t + x * 8 ^ v)) 8 := by
    have e2 : nI (cn_t (fun x => s (T + dg_b v t + x * 8 ^ v)) 8) < 1 ↔ cn_t (fun x => s (T + dg_b v t + x * 8 ^ v)) 8 < 1 := nI_ltI (b := 1) (by omega) (by decide)
    rw [e2]
    omega
  rw [e, hq]
  constructor
  · rintro ⟨x, hx, z⟩
    refine pb_t ⟨x, hx, ?_⟩
    rw [← Nat.add_assoc]
    exact (bo_ne (ha _)).mp z
  · intro h
    refine Classical.byContradiction (fun n => ?_)
    have hno : ¬ ∃ x, x < 8 ∧ s (T + (dg_b v t + x * 8 ^ v)) = 1 := by
      rintro ⟨x, hx, z⟩
      refine n ⟨x, hx, ?_⟩
      show ¬ s (T + dg_b v t + x * 8 ^ v) = 0
      rw [Nat.add_assoc, z]
      decide
    rw [pb_f hno] at h
    exact absurd h (by decide)
theorem qe_8 {s : Nat → Int32} {T v t : Nat} (hv : v < 3) (ht : t < 512) : qu_g s T v 8 (dg_b v t) = qy_g s T v 0 t := by
  refine pb_c ?_
  have hq := cn_full (p := fun x => s (T + dg_b v t + x * 8 ^ v)) 8
  have hl := cn_le (fun x => s (T + dg_b v t + x * 8 ^ v)) 8
  have e : (¬ nI (cn_t (fun x => s (T + dg_b v t + x * 8 ^ v)) 8) < 8) ↔ 8 ≤ cn_t (fun x => s (T + dg_b v t + x * 8 ^ v)) 8 := by
    have e2 : nI (cn_t (fun x => s (T + dg_b v t + x * 8 ^ v)) 8) < 8 ↔ cn_t (fun x => s (T + dg_b v t + x * 8 ^ v)) 8 < 8 := nI_ltI (b := 8) (by omega) (by decide)
    rw [e2]
    omega
  rw [e, hq, pb_z]
  constructor
  · rintro h ⟨x, hx, z⟩
    rw [← Nat.add_assoc] at z
    exact h x hx z
  · intro h x hx z
    rw [Nat.add_assoc] at z
    exact h ⟨x, hx, z⟩
theorem qu_all {k d v : Nat} {a o : Nat → Int32} {need some : Int32} (hd : d < 5) (ha : bo_a a) (hv : v < 3) (hg : ∀ t, t < 512 → qu_g a (d * 512) v need (dg_b v t) = qy_g a (d * 512) v some t) :
    wpX_quantify (fun r u' => wpY_quantify (fun r' v' => r' = r ∧ i_Rel k u' v') (nI (d + 1), a, o) (nI v) some) (nI (d + 1), a) (nI v) need := by
  unfold wpX_quantify wpY_quantify
  dsimp only
  refine xs_va_t hv (br_f (by decide) (br_t (nI_le (a := 1) (by omega) (by omega)) (xs_top (xs_st hv (xl_quant hd hv ?_)))))
  rw [qu_end hv hg]
  exact ys_va_t hv (br_t rfl (br_f (nI_ne0 (by omega) (by omega)) (yl_keep hd ha (ys_at (d := d) (by omega) (nI_pred d) (yl_quant hd hv ⟨rfl, re_i (by omega) (fi_01 ha (fun t _ => pb_01 _))⟩)))))
theorem qu_ref {k d : Nat} {a o : Nat → Int32} {p need some : Int32} (hd : d ≤ 5) (ha : bo_a a) (h : (¬ ∃ v : Nat, v < 3 ∧ p = nI v) ∨ d = 0) :
    wpX_quantify (fun r u' => wpY_quantify (fun r' v' => r' = r ∧ i_Rel k u' v') (nI d, a, o) p some) (nI d, a) p need := by
  have hI := re_i (k := k) (o := o) hd ha
  unfold wpX_quantify wpY_quantify
  dsimp only
  by_cases c : ∃ v : Nat, v < 3 ∧ p = nI v
  · have hz : d = 0 := h.elim (fun z => absurd c z) id
    obtain ⟨v, hv, rfl⟩ := c
    subst hz
    exact xs_va_t hv (br_f (by decide) (br_f (by decide) (ys_va_t hv (br_t rfl (br_t nI_0 ⟨rfl, hI⟩)))))
  · exact xs_va_f c (br_t rfl (ys_va_f c (br_f (by decide) ⟨rfl, hI⟩)))
theorem i_vc_exists {k : Nat} {u : SX} {v : SY} (I : i_Rel k u v) (hk : k + 5 ≤ 2560) (v1 : Int32) : wpX_exists (fun r u' => wpY_exists (fun r' v' => r' = r ∧ i_Rel (k + 5) u' v') v v1) u v1 := by
  obtain ⟨d, a, o, hd, ha, rfl, rfl⟩ := I
  by_cases c : (∃ v : Nat, v < 3 ∧ v1 = nI v) ∧ ¬ d = 0
  · obtain ⟨⟨v, hv, rfl⟩, h0⟩ := c
    obtain ⟨e, rfl⟩ : ∃ e, d = e + 1 := ⟨d - 1, by omega⟩
    exact qu_all (by omega) ha hv (fun t ht => qe_1 ha hv ht)
  · exact qu_ref hd ha (by
      by_cases z : d = 0
      · exact Or.inr z
      · exact Or.inl (fun w => c ⟨w, z⟩))
theorem i_vc_forall {k : Nat} {u : SX} {v : SY} (I : i_Rel k u v) (hk : k + 5 ≤ 2560) (v1 : Int32) : wpX_forall (fun r u' => wpY_forall (fun r' v' => r' = r ∧ i_Rel (k + 5) u' v') v v1) u v1 := by
  obtain ⟨d, a, o, hd, ha, rfl, rfl⟩ := I
  by_cases c : (∃ v : Nat, v < 3 ∧ v1 = nI v) ∧ ¬ d = 0
  · obtain ⟨⟨v, hv, rfl⟩, h0⟩ := c
    obtain ⟨e, rfl⟩ : ∃ e, d = e + 1 := ⟨d - 1, by omega⟩
    exact qu_all (by omega) ha hv (fun t ht => qe_8 hv ht)
  · exact qu_ref hd ha (by
      by_cases z : d = 0
      · exact Or.inr z
      · exact Or.inl (fun w => c ⟨w, z⟩))
theorem i_vc_exchange {k : Nat} {u : SX} {v : SY} (I : i_Rel k u v) (hk : k + 5 ≤ 2560) (v1 : Int32) (v2 : Int32) : wpX_exchange (fun r u' => wpY_exchange (fun r' v' => r' = r ∧ i_Rel (k + 5) u' v') v v1 v2) u v1 v2 := by
  obtain ⟨d, a, o, hd, ha, rfl, rfl⟩ := I
  have hI := re_i (k := k + 5) (o := o) hd ha
  unfold wpX_exchange wpY_exchange
  dsimp only
  by_cases c1 : ∃ v : Nat, v < 3 ∧ v1 = nI v
  · obtain ⟨x, hx, rfl⟩ := c1
    refine xs_va_t hx (br_f (by decide) ?_)
    by_cases c2 : ∃ v : Nat, v < 3 ∧ v2 = nI v
    · obtain ⟨y, hy, rfl⟩ := c2
      refine xs_va_t hy (br_f (by decide) ?_)
      by_cases h0 : d = 0
      · subst h0
        exact br_f (by decide) (ys_va_t hx (br_t rfl (ys_va_t hy (br_t rfl (br_t nI_0 ⟨rfl, hI⟩)))))
      · obtain ⟨e, rfl⟩ : ∃ e, d = e + 1 := ⟨d - 1, by omega⟩
        have hd' : e < 5 := by omega
        refine br_t (nI_le (a := 1) (by omega) (by omega)) (xs_top (xl_exch hd' hx hy ha ?_))
        exact ys_va_t hx (br_t rfl (ys_va_t hy (br_t rfl (br_f (nI_ne0 (by omega) (by omega)) (yl_keep hd' ha (ys_at (d := e) (by omega) (nI_pred e) (yl_exch hd' hx hy ha ⟨rfl, re_i hd (fi_01 ha (fun t _ => ha _))⟩)))))))
    · exact xs_va_f c2 (br_t rfl (ys_va_t hx (br_t rfl (ys_va_f c2 (br_f (by decide) ⟨rfl, hI⟩)))))
  · exact xs_va_f c1 (br_t rfl (ys_va_f c1 (br_f (by decide) ⟨rfl, hI⟩)))
theorem i_vc_mirror {k : Nat} {u : SX} {v : SY} (I : i_Rel k u v) (hk : k + 5 ≤ 2560) (v1 : Int32) : wpX_mirror (fun r u' => wpY_mirror (fun r' v' => r' = r ∧ i_Rel (k + 5) u' v') v v1) u v1 := by
  obtain ⟨d, a, o, hd, ha, rfl, rfl⟩ := I
  have hI := re_i (k := k + 5) (o := o) hd ha
  unfold wpX_mirror wpY_mirror
  dsimp only
  by_cases c1 : ∃ v : Nat, v < 3 ∧ v1 = nI v
  · obtain ⟨x, hx, rfl⟩ := c1
    refine xs_va_t hx (br_f (by decide) ?_)
    by_cases h0 : d = 0
    · subst h0
      exact br_f (by decide) (ys_va_t hx (br_t rfl (br_t nI_0 ⟨rfl, hI⟩)))
    · obtain ⟨e, rfl⟩ : ∃ e, d = e + 1 := ⟨d - 1, by omega⟩
      have hd' : e < 5 := by omega
      refine br_t (nI_le (a := 1) (by omega) (by omega)) (xs_top (xl_mirr hd' hx ha ?_))
      exact ys_va_t hx (br_t rfl (br_f (nI_ne0 (by omega) (by omega)) (yl_keep hd' ha (ys_at (d := e) (by omega) (nI_pred e) (yl_mirr hd' hx ha ⟨rfl, re_i hd (fi_01 ha (fun t _ => ha _))⟩)))))
  · exact xs_va_f c1 (br_t rfl (ys_va_f c1 (br_f (by decide) ⟨rfl, hI⟩)))
theorem i_vc_copy {k : Nat} {u : SX} {v : SY} (I : i_Rel k u v) (hk : k + 5 ≤ 2560) (v1 : Int32) : wpX_copy (fun r u' => wpY_copy (fun r' v' => r' = r ∧ i_Rel (k + 5) u' v') v v1) u v1 := by
  obtain ⟨d, a, o, hd, ha, rfl, rfl⟩ := I
  have hI := re_i (k := k + 5) (o := o) hd ha
  unfold wpX_copy wpY_copy
  dsimp only
  by_cases c : ∃ j : Nat, j < d ∧ v1 = nI j
  · obtain ⟨p, hp, rfl⟩ := c
    refine xs_pl_t hd hp (br_f (by decide) ?_)
    by_cases h5 : d < 5
    · refine br_t (lt_5 h5) (nm_r (ti_x p) (nm_r (ti_x d) (xl_copy h5 hp ha ?_)))
      exact ys_pl_t hd hp (br_t rfl (br_f (ne_5 h5) (yl_copy h5 hp ha ⟨rfl, re_i (by omega) (fi_01 ha (fun t _ => ha _))⟩)))
    · have e := eq_5 hd h5
      exact br_f e.2 (ys_pl_t hd hp (br_t rfl (br_t e.1 ⟨rfl, hI⟩)))
  · exact xs_pl_f c (br_t rfl (ys_pl_f hd c (br_f (by decide) ⟨rfl, hI⟩)))
theorem i_vc_drop {k : Nat} {u : SX} {v : SY} (I : i_Rel k u v) (hk : k + 5 ≤ 2560) : wpX_drop (fun r u' => wpY_drop (fun r' v' => r' = r ∧ i_Rel (k + 5) u' v') v) u := by
  obtain ⟨d, a, o, hd, ha, rfl, rfl⟩ := I
  have hI := re_i (k := k + 5) (o := o) hd ha
  unfold wpX_drop wpY_drop
  dsimp only
  by_cases h0 : d = 0
  · subst h0
    exact br_f (by decide) (br_t nI_0 ⟨rfl, hI⟩)
  · obtain ⟨e, rfl⟩ : ∃ e, d = e + 1 := ⟨d - 1, by omega⟩
    exact br_t (nI_le (a := 1) (by omega) (by omega)) (nm_r (nI_pred e) (br_f (nI_ne0 (by omega) (by omega)) (nm_r (nI_pred e) ⟨rfl, re_i (by omega) ha⟩)))
theorem i_vc_holds {k : Nat} {u : SX} {v : SY} (I : i_Rel k u v) (hk : k + 5 ≤ 2560) (v1 : Int32) (v2 : Int32) : wpX_holds (fun r => wpY_holds (fun r' => r' = r ∧ i_Rel (k + 5) u v) v v1 v2) u v1 v2 := by
  obtain ⟨d, a, o, hd, ha, rfl, rfl⟩ := I
  have hI := re_i (k := k + 5) (o := o) hd ha
  unfold wpX_holds wpY_holds
  dsimp only
  by_cases c : ∃ j : Nat, j < d ∧ v1 = nI j
  · obtain ⟨p, hp, rfl⟩ := c
    refine xs_pl_t hd hp (br_f (by decide) ?_)
    refine br_c (fun hn => ys_pl_t hd hp (br_t rfl (br_t hn ⟨rfl, hI⟩))) (fun hn => ?_)
    obtain ⟨t, ht, rfl⟩ := nI_of hn
    by_cases h5 : t < 512
    · have hb : p * 512 + t < 2560 := by omega
      refine br_t (nI_lt (b := 512) h5 (by decide)) ?_
      rw [ti_x]
      have hY : nI t ≤ 511 := nI_le (b := 511) (by omega) (by decide)
      refine ⟨ce_in hb, br_c (fun hz => ?_) (fun hz => ?_)⟩
      · exact ys_pl_t hd hp (br_t rfl (br_f hn (br_t hY (ys_at (d := p) (by omega) rfl ⟨ce_in hb, br_t hz ⟨rfl, hI⟩⟩))))
      · exact ys_pl_t hd hp (br_t rfl (br_f hn (br_t hY (ys_at (d := p) (by omega) rfl ⟨ce_in hb, br_f hz ⟨rfl, hI⟩⟩))))
    · exact br_f (nI_nlt (b := 512) (by omega) ht) (ys_pl_t hd hp (br_t rfl (br_f hn (br_f (nI_ge (a := 511) (by omega) ht) ⟨rfl, hI⟩))))
  · exact xs_pl_f c (br_t rfl (ys_pl_f hd c (br_f (by decide) ⟨rfl, hI⟩)))
theorem i_vc_count {k : Nat} {u : SX} {v : SY} (I : i_Rel k u v) (hk : k + 5 ≤ 2560) (v1 : Int32) : wpX_count (fun r => wpY_count (fun r' => r' = r ∧ i_Rel (k + 5) u v) v v1) u v1 := by
  obtain ⟨d, a, o, hd, ha, rfl, rfl⟩ := I
  have hI := re_i (k := k + 5) (o := o) hd ha
  unfold wpX_count wpY_count
  dsimp only
  by_cases c : ∃ j : Nat, j < d ∧ v1 = nI j
  · obtain ⟨p, hp, rfl⟩ := c
    exact xs_pl_t hd hp (br_f (by decide) (xl_ht (by omega) rfl (ys_pl_t hd hp (br_t rfl (yl_ct (by omega) rfl ⟨rfl, hI⟩)))))
  · exact xs_pl_f c (br_t rfl (ys_pl_f hd c (br_f (by decide) ⟨rfl, hI⟩)))
theorem i_vc_next {k : Nat} {u : SX} {v : SY} (I : i_Rel k u v) (hk : k + 5 ≤ 2560) (v1 : Int32) (v2 : Int32) : wpX_next (fun r => wpY_next (fun r' => r' = r ∧ i_Rel (k + 5) u v) v v1 v2) u v1 v2 := by
  obtain ⟨d, a, o, hd, ha, rfl, rfl⟩ := I
  have hI := re_i (k := k + 5) (o := o) hd ha
  unfold wpX_next wpY_next
  dsimp only
  by_cases c : ∃ j : Nat, j < d ∧ v1 = nI j
  · obtain ⟨p, hp, rfl⟩ := c
    refine xs_pl_t hd hp (br_f (by decide) (nm_r (ti_x p) (xl_next (by omega) (fun t ht hh hm => ?_) (fun hn => ?_))))
    · refine ys_pl_t hd hp (br_t rfl (yl_next (by omega) (fun t' ht' hh' hm' => ⟨?_, hI⟩) (fun hn => absurd hh (hn t ht))))
      have e1 : ¬ t < t' := fun z => hm' t z hh
      have e2 : ¬ t' < t := fun z => hm t' z hh'
      exact congrArg nI (by omega)
    · exact ys_pl_t hd hp (br_t rfl (yl_next (by omega) (fun t' ht' hh' hm' => absurd hh' (hn t' ht')) (fun _ => ⟨rfl, hI⟩)))
  · exact xs_pl_f c (br_t rfl (ys_pl_f hd c (br_f (by decide) ⟨rfl, hI⟩)))
theorem i_vc_same {k : Nat} {u : SX} {v : SY} (I : i_Rel k u v) (hk : k + 5 ≤ 2560) (v1 : Int32) (v2 : Int32) : wpX_same (fun r => wpY_same (fun r' => r' = r ∧ i_Rel (k + 5) u v) v v1 v2) u v1 v2 := by
  obtain ⟨d, a, o, hd, ha, rfl, rfl⟩ := I
  have hI := re_i (k := k + 5) (o := o) hd ha
  unfold wpX_same wpY_same
  dsimp only
  by_cases c1 : ∃ j : Nat, j < d ∧ v1 = nI j
  · obtain ⟨p, hp, rfl⟩ := c1
    refine xs_pl_t hd hp (br_f (by decide) ?_)
    by_cases c2 : ∃ j : Nat, j < d ∧ v2 = nI j
    · obtain ⟨q, hq, rfl⟩ := c2
      refine xs_pl_t hd hq (br_f (by decide) (xl_sub (by omega) (by omega) (fun s1 => br_f (by decide) (xl_sub (by omega) (by omega) (fun s2 => br_f (by decide) ?_) (fun s2 => br_t rfl ?_))) (fun s1 => br_t rfl ?_)))
      · refine ys_pl_t hd hp (br_t rfl (ys_pl_t hd hq (br_t rfl (yl_same (by omega) (by omega) (fun _ => ⟨rfl, hI⟩) (fun ⟨t, ht, z⟩ => absurd ?_ z)))))
        cases ha (p * 512 + t) with
        | inl h0 =>
          cases ha (q * 512 + t) with
          | inl g0 => rw [h0, g0]
          | inr g1 => exact absurd h0 (s2 t ht (by rw [g1]; decide))
        | inr h1 => rw [h1, (bo_ne (ha _)).mp (s1 t ht (by rw [h1]; decide))]
      · obtain ⟨t, ht, z1, z2⟩ := s2
        exact ys_pl_t hd hp (br_t rfl (ys_pl_t hd hq (br_t rfl (yl_same (by omega) (by omega) (fun w => absurd ((w t ht).symm.trans z2) z1) (fun _ => ⟨rfl, hI⟩)))))
      · obtain ⟨t, ht, z1, z2⟩ := s1
        exact ys_pl_t hd hp (br_t rfl (ys_pl_t hd hq (br_t rfl (yl_same (by omega) (by omega) (fun w => absurd ((w t ht).trans z2) z1) (fun _ => ⟨rfl, hI⟩)))))
    · exact xs_pl_f c2 (br_t rfl (ys_pl_t hd hp (br_t rfl (ys_pl_f hd c2 (br_f (by decide) ⟨rfl, hI⟩)))))
  · exact xs_pl_f c1 (br_t rfl (ys_pl_f hd c1 (br_f (by decide) ⟨rfl, hI⟩)))
theorem i_vc_implied {k : Nat} {u : SX} {v : SY} (I : i_Rel k u v) (hk : k + 5 ≤ 2560) (v1 : Int32) (v2 : Int32) : wpX_implied (fun r => wpY_implied (fun r' => r' = r ∧ i_Rel (k + 5) u v) v v1 v2) u v1 v2 := by
  obtain ⟨d, a, o, hd, ha, rfl, rfl⟩ := I
  have hI := re_i (k := k + 5) (o := o) hd ha
  unfold wpX_implied wpY_implied
  dsimp only
  by_cases c1 : ∃ j : Nat, j < d ∧ v1 = nI j
  · obtain ⟨p, hp, rfl⟩ := c1
    refine xs_pl_t hd hp (br_f (by decide) ?_)
    by_cases c2 : ∃ j : Nat, j < d ∧ v2 = nI j
    · obtain ⟨q, hq, rfl⟩ := c2
      refine xs_pl_t hd hq (br_f (by decide) (xl_sub (by omega) (by omega) (fun s1 => br_f (by decide) ?_) (fun s1 => br_t rfl ?_)))
      · exact ys_pl_t hd hp (br_t rfl (ys_pl_t hd hq (br_t rfl (yl_impl (by omega) (by omega) (fun _ => ⟨rfl, hI⟩) (fun ⟨t, ht, z1, z2⟩ => absurd z2 (s1 t ht z1))))))
      · obtain ⟨t, ht, z1, z2⟩ := s1
        exact ys_pl_t hd hp (br_t rfl (ys_pl_t hd hq (br_t rfl (yl_impl (by omega) (by omega) (fun w => absurd z2 (w t ht z1)) (fun _ => ⟨rfl, hI⟩)))))
    · exact xs_pl_f c2 (br_t rfl (ys_pl_t hd hp (br_t rfl (ys_pl_f hd c2 (br_f (by decide) ⟨rfl, hI⟩)))))
  · exact xs_pl_f c1 (br_t rfl (ys_pl_f hd c1 (br_f (by decide) ⟨rfl, hI⟩)))
theorem dp_0 {s : Nat → Int32} {T v : Nat} (hv : v < 3) (h : ∀ t, t < 512 → s (T + t) = s (T + dg_b v t)) {n x : Nat} (hn : n < 512) (hz : dg_v v n = 0) (hx : x < 8) : s (T + n + x * 8 ^ v) = s (T + n) := by
  have hb := (dg_0 hv hn).mp hz
  have h1 := h _ (dg_l hv hn hx)
  rw [dg_lb hv hn hx, hb, ← Nat.add_assoc] at h1
  exact h1
theorem dp_1 {s : Nat → Int32} {T v : Nat} (ha : bo_a s) (hv : v < 3) (h : ∀ n, n < 512 → dg_v v n = 0 → (∀ x, x < 8 → s (T + n + x * 8 ^ v) = 0) ∨ (∀ x, x < 8 → ¬ s (T + n + x * 8 ^ v) = 0)) {t : Nat} (ht : t < 512) : s (T + t) = s (T + dg_b v t) := by
  have hb := dg_bl hv ht
  have h1 := h _ hb ((dg_0 hv hb).mpr (dg_bb hv ht))
  have hw := dg_lt hv ht
  have e : T + dg_b v t + dg_v v t * 8 ^ v = T + t := by rw [Nat.add_assoc, dg_eq hv ht]
  have e0 : T + dg_b v t + 0 * 8 ^ v = T + dg_b v t := by rw [Nat.zero_mul, Nat.add_zero]
  cases h1 with
  | inl h1 =>
    have z1 := h1 _ hw
    have z2 := h1 0 (by decide)
    rw [e] at z1
    rw [e0] at z2
    rw [z1, z2]
  | inr h1 =>
    have z1 := h1 _ hw
    have z2 := h1 0 (by decide)
    rw [e] at z1
    rw [e0] at z2
    rw [(bo_ne (ha _)).mp z1, (bo_ne (ha _)).mp z2]
theorem i_vc_depends {k : Nat} {u : SX} {v : SY} (I : i_Rel k u v) (hk : k + 5 ≤ 2560) (v1 : Int32) (v2 : Int32) : wpX_depends (fun r => wpY_depends (fun r' => r' = r ∧ i_Rel (k + 5) u v) v v1 v2) u v1 v2 := by
  obtain ⟨d, a, o, hd, ha, rfl, rfl⟩ := I
  have hI := re_i (k := k + 5) (o := o) hd ha
  unfold wpX_depends wpY_depends
  dsimp only
  by_cases c1 : ∃ j : Nat, j < d ∧ v1 = nI j
  · obtain ⟨p, hp, rfl⟩ := c1
    refine xs_pl_t hd hp (br_f (by decide) ?_)
    by_cases c2 : ∃ v : Nat, v < 3 ∧ v2 = nI v
    · obtain ⟨x, hx, rfl⟩ := c2
      refine xs_va_t hx (br_f (by decide) (nm_r (ti_x p) (xs_st hx (xl_dep (by omega) hx (fun h1 => ?_) (fun h0 => ?_)))))
      · obtain ⟨n, hn, hz, ⟨y, hy, y1⟩, ⟨w, hw, w0⟩⟩ := h1
        exact ys_pl_t hd hp (br_t rfl (ys_va_t hx (br_t rfl (yl_dep (by omega) hx (fun _ => ⟨rfl, hI⟩) (fun q => absurd (((dp_0 hx q hn hz hy).trans (dp_0 hx q hn hz hw).symm).trans w0) y1)))))
      · exact ys_pl_t hd hp (br_t rfl (ys_va_t hx (br_t rfl (yl_dep (by omega) hx (fun ⟨t, ht, z⟩ => absurd (dp_1 ha hx h0 ht) z) (fun _ => ⟨rfl, hI⟩)))))
    · exact xs_va_f c2 (br_t rfl (ys_pl_t hd hp (br_t rfl (ys_va_f c2 (br_f (by decide) ⟨rfl, hI⟩)))))
  · exact xs_pl_f c1 (br_t rfl (ys_pl_f hd c1 (br_f (by decide) ⟨rfl, hI⟩)))
theorem i_vc_values {k : Nat} {u : SX} {v : SY} (I : i_Rel k u v) (hk : k + 5 ≤ 2560) (v1 : Int32) (v2 : Int32) : wpX_values (fun r => wpY_values (fun r' => r' = r ∧ i_Rel (k + 5) u v) v v1 v2) u v1 v2 := by
  obtain ⟨d, a, o, hd, ha, rfl, rfl⟩ := I
  have hI := re_i (k := k + 5) (o := o) hd ha
  unfold wpX_values wpY_values
  dsimp only
  by_cases c1 : ∃ j : Nat, j < d ∧ v1 = nI j
  · obtain ⟨p, hp, rfl⟩ := c1
    refine xs_pl_t hd hp (br_f (by decide) ?_)
    by_cases c2 : ∃ v : Nat, v < 3 ∧ v2 = nI v
    · obtain ⟨x, hx, rfl⟩ := c2
      exact xs_va_t hx (br_f (by decide) (xl_vals (by omega) hx (ys_pl_t hd hp (br_t rfl (ys_va_t hx (br_t rfl (yl_vals (by omega) hx ⟨rfl, hI⟩)))))))
    · exact xs_va_f c2 (br_t rfl (ys_pl_t hd hp (br_t rfl (ys_va_f c2 (br_f (by decide) ⟨rfl, hI⟩)))))
  · exact xs_pl_f c1 (br_t rfl (ys_pl_f hd c1 (br_f (by decide) ⟨rfl, hI⟩)))
end
