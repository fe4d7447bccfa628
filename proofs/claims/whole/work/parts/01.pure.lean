theorem pk_us {f : Nat → Int32} {k : Nat} {x : Int32} : upd f k x k = x := if_pos rfl
theorem pk_un {f : Nat → Int32} {k j : Nat} {x : Int32} (h : j ≠ k) : upd f k x j = f j := if_neg h
theorem pk_sub {a b : Nat} (h : b ≤ a) : nI a - nI b = nI (a - b) := by
  obtain ⟨c, rfl⟩ : ∃ c, a = c + b := ⟨a - b, by omega⟩
  rw [← nI_add, Int32.add_sub_cancel, Nat.add_sub_cancel]
theorem pk_m1 (n : Nat) : nI (n + 1) + (-1) = nI n := by
  rw [← nI_1, Int32.add_assoc, show (1 : Int32) + (-1) = 0 from rfl, Int32.add_zero]
theorem pk_mul (a b : Nat) : nI a * nI b = nI (a * b) := (Int32.ofNat_mul a b).symm
theorem pk_div {a d : Nat} (ha : a < 2 ^ 31) (h0 : 0 < d) (hd : d < 2 ^ 31) : nI a / nI d = nI (a / d) := by
  apply Int32.toInt_inj.mp
  rw [lg_idiv_nonneg (by rw [nI_toInt ha]; omega) (by rw [nI_toInt hd]; omega), nI_toInt ha, nI_toInt hd, nI_toInt (Nat.lt_of_le_of_lt (Nat.div_le_self a d) ha)]
  first | rfl | exact (Int.natCast_ediv _ _).symm
theorem pk_rem {a d : Nat} (ha : a < 2 ^ 31) (h0 : 0 < d) (hd : d < 2 ^ 31) : nI a - nI a / nI d * nI d = nI (a % d) := by
  rw [pk_div ha h0 hd, pk_mul, pk_sub (Nat.div_mul_le_self a d)]
  exact congrArg nI (by have := Nat.div_add_mod' a d; omega)
theorem pk_ix (x : Int32) {n : Nat} (hn : n < 2 ^ 31) : x < 0 ∨ nI n ≤ x ∨ ∃ j : Nat, j < n ∧ x = nI j := by
  by_cases h : x < 0
  · exact Or.inl h
  · obtain ⟨j, hj, rfl⟩ := nI_of h
    by_cases h2 : j < n
    · exact Or.inr (Or.inr ⟨j, h2, rfl⟩)
    · exact Or.inr (Or.inl (nI_le (by omega) hj))
theorem pk_le {x y : Int32} {A B : Prop} (a b : Nat) (f : a ≤ b → A) (g : b < a → B) (hx : x = nI a := by rfl) (hy : y = nI b := by rfl) (ha : a < 2 ^ 31 := by omega) (hb : b < 2 ^ 31 := by omega) : (x ≤ y → A) ∧ (¬ x ≤ y → B) := by
  subst hx hy
  rw [nI_leI ha hb]
  exact ⟨f, fun z => g (by omega)⟩
theorem pk_lt {x y : Int32} {A B : Prop} (a b : Nat) (f : a < b → A) (g : b ≤ a → B) (hx : x = nI a := by rfl) (hy : y = nI b := by rfl) (ha : a < 2 ^ 31 := by omega) (hb : b < 2 ^ 31 := by omega) : (x < y → A) ∧ (¬ x < y → B) := by
  subst hx hy
  rw [nI_ltI ha hb]
  exact ⟨f, fun z => g (by omega)⟩
theorem pk_eq {x y : Int32} {A B : Prop} (a b : Nat) (f : a = b → A) (g : a ≠ b → B) (hx : x = nI a := by rfl) (hy : y = nI b := by rfl) (ha : a < 2 ^ 31 := by omega) (hb : b < 2 ^ 31 := by omega) : (x = y → A) ∧ (¬ x = y → B) := by
  subst hx hy
  rw [nI_eq ha hb]
  exact ⟨f, g⟩
theorem pk_in {x : Int32} (n N : Nat) (h : n < N) (hx : x = nI n := by rfl) (hN : N < 2 ^ 31 := by omega) : vp_in x N := by
  subst hx
  exact vp_in_nI h hN
theorem pk_cl {x : Int32} (n : Nat) (hx : x = nI n := by rfl) (h : n < 2 ^ 31 := by omega) : x.toNatClampNeg = n := by
  subst hx
  exact nI_clamp h
theorem pk_loop {σ : Type} (W : Nat → Nat → σ → Prop) (I : Nat → σ → Prop) (e i0 : Nat) (s : σ) (hi : i0 ≤ e) (h0 : I i0 s) (hx : ∀ n s, I e s → W (n + 1) e s)
    (hs : ∀ n i s, i < e → I i s → (∀ s', I (i + 1) s' → W n (i + 1) s') → W (n + 1) i s) : ∃ n, W n i0 s :=
  ⟨e + 1, loop_i W I e hx hs (e + 1) i0 s hi (by omega) h0⟩
/-! truths as ints -/
noncomputable def pb_of (p : Prop) : Int32 := @ite Int32 p (Classical.propDecidable p) 1 0
theorem pb_t {p : Prop} (h : p) : pb_of p = 1 := by
  unfold pb_of; exact if_pos h
theorem pb_f {p : Prop} (h : ¬ p) : pb_of p = 0 := by
  unfold pb_of; exact if_neg h
theorem pb_01 (p : Prop) : pb_of p = 0 ∨ pb_of p = 1 := by
  by_cases h : p
  · exact Or.inr (pb_t h)
  · exact Or.inl (pb_f h)
theorem pb_c {p q : Prop} (h : p ↔ q) : pb_of p = pb_of q := congrArg pb_of (propext h)
theorem pb_z {p : Prop} : pb_of p = 0 ↔ ¬ p := by
  constructor
  · intro h hp
    rw [pb_t hp] at h
    exact absurd h (by decide)
  · exact pb_f
theorem bo_0 : vp_nar .boolean 0 = 0 := rfl
theorem bo_1 : vp_nar .boolean 1 = 1 := rfl
theorem bo_v {x : Int32} (h : x = 0 ∨ x = 1) : vp_nar .boolean x = x := by
  cases h with
  | inl h => subst h; exact bo_0
  | inr h => subst h; exact bo_1
theorem bo_n {x : Int32} (h : x = 0 ∨ x = 1) : narrow .boolean (.int x) = .int x := by
  cases h with
  | inl h => subst h; rfl
  | inr h => subst h; rfl
theorem bo_ne {x : Int32} (h : x = 0 ∨ x = 1) : ¬ x = 0 ↔ x = 1 := by
  cases h with
  | inl h => subst h; decide
  | inr h => subst h; decide
def bo_a (a : Nat → Int32) : Prop := ∀ i, a i = 0 ∨ a i = 1
/-! a block filled from its start on -/
def fi_l (a : Nat → Int32) (T n : Nat) (g : Nat → Int32) : Nat → Int32 := fun j => if T ≤ j ∧ j < T + n then g (j - T) else a j
theorem fi_out {a g : Nat → Int32} {T n j : Nat} (h : ¬ (T ≤ j ∧ j < T + n)) : fi_l a T n g j = a j := if_neg h
theorem fi_pos {a g : Nat → Int32} {T n j : Nat} (h : T ≤ j ∧ j < T + n) : fi_l a T n g j = g (j - T) := if_pos h
theorem fi_in {a g : Nat → Int32} {T n t : Nat} (h : t < n) : fi_l a T n g (T + t) = g t := by
  rw [fi_pos ⟨Nat.le_add_right T t, by omega⟩, Nat.add_sub_cancel_left]
theorem fi_0 {a g : Nat → Int32} {T : Nat} : fi_l a T 0 g = a := by
  funext j
  exact fi_out (by omega)
theorem fi_s {a g : Nat → Int32} {T n : Nat} {x : Int32} (hx : x = g n) : upd (fi_l a T n g) (T + n) x = fi_l a T (n + 1) g := by
  funext j
  by_cases h : j = T + n
  · subst h
    rw [pk_us, fi_in (Nat.lt_succ_self n)]
    exact hx
  · rw [pk_un h]
    by_cases h2 : T ≤ j ∧ j < T + n
    · rw [fi_pos h2, fi_pos ⟨h2.1, by omega⟩]
    · rw [fi_out h2, fi_out (by omega)]
theorem fi_01 {a g : Nat → Int32} {T n : Nat} (ha : bo_a a) (hg : ∀ t, t < n → g t = 0 ∨ g t = 1) : bo_a (fi_l a T n g) := by
  intro j
  by_cases h : T ≤ j ∧ j < T + n
  · rw [fi_pos h]; exact hg _ (by omega)
  · rw [fi_out h]; exact ha j
theorem fi_e {a g g' : Nat → Int32} {T n : Nat} (h : ∀ t, t < n → g t = g' t) : fi_l a T n g = fi_l a T n g' := by
  funext j
  by_cases h2 : T ≤ j ∧ j < T + n
  · rw [fi_pos h2, fi_pos h2]; exact h _ (by omega)
  · rw [fi_out h2, fi_out h2]
/-! counts -/
def cn_t (p : Nat → Int32) : Nat → Nat
  | 0 => 0
  | n + 1 => cn_t p n + (if p n = 0 then 0 else 1)
theorem cn_z {p : Nat → Int32} {n : Nat} (h : p n = 0) : cn_t p (n + 1) = cn_t p n := by
  show cn_t p n + (if p n = 0 then 0 else 1) = _
  rw [if_pos h]; rfl
theorem cn_o {p : Nat → Int32} {n : Nat} (h : ¬ p n = 0) : cn_t p (n + 1) = cn_t p n + 1 := by
  show cn_t p n + (if p n = 0 then 0 else 1) = _
  rw [if_neg h]
theorem cn_le (p : Nat → Int32) : ∀ n, cn_t p n ≤ n := by
  intro n
  induction n with
  | zero => exact Nat.le_refl 0
  | succ n ih =>
    by_cases h : p n = 0
    · rw [cn_z h]; omega
    · rw [cn_o h]; omega
theorem cn_i {p q : Nat → Int32} : ∀ n, (∀ t, t < n → (p t = 0 ↔ q t = 0)) → cn_t p n = cn_t q n := by
  intro n
  induction n with
  | zero => intro _; rfl
  | succ n ih =>
    intro h
    have h1 := ih (fun t ht => h t (by omega))
    have h2 := h n (Nat.lt_succ_self n)
    by_cases z : p n = 0
    · rw [cn_z z, cn_z (h2.mp z), h1]
    · rw [cn_o z, cn_o (fun y => z (h2.mpr y)), h1]
theorem cn_c {p q : Nat → Int32} {n : Nat} (h : ∀ t, t < n → p t = q t) : cn_t p n = cn_t q n :=
  cn_i n (fun t ht => by rw [h t ht])
theorem cn_pos {p : Nat → Int32} : ∀ n, 1 ≤ cn_t p n ↔ ∃ t, t < n ∧ ¬ p t = 0 := by
  intro n
  induction n with
  | zero =>
    constructor
    · intro h; exact absurd h (Nat.not_succ_le_zero 0)
    · rintro ⟨t, ht, _⟩; omega
  | succ n ih =>
    by_cases z : p n = 0
    · rw [cn_z z, ih]
      constructor
      · rintro ⟨t, ht, h⟩; exact ⟨t, by omega, h⟩
      · rintro ⟨t, ht, h⟩
        refine ⟨t, ?_, h⟩
        have : t ≠ n := fun e => h (e ▸ z)
        omega
    · rw [cn_o z]
      constructor
      · intro _; exact ⟨n, Nat.lt_succ_self n, z⟩
      · intro _; omega
theorem cn_full {p : Nat → Int32} : ∀ n, n ≤ cn_t p n ↔ ∀ t, t < n → ¬ p t = 0 := by
  intro n
  induction n with
  | zero =>
    constructor
    · intro _ t ht; omega
    · intro _; exact Nat.zero_le _
  | succ n ih =>
    have hl := cn_le p n
    by_cases z : p n = 0
    · rw [cn_z z]
      constructor
      · intro h; omega
      · intro h; exact absurd z (h n (Nat.lt_succ_self n))
    · rw [cn_o z]
      constructor
      · intro h t ht
        by_cases e : t = n
        · rw [e]; exact z
        · exact ih.mp (by omega) t (by omega)
      · intro h
        have := ih.mpr (fun t ht => h t (by omega))
        omega
/-! digits of a triple's number -/
def dg_v (v t : Nat) : Nat := t / 8 ^ v % 8
def dg_b (v t : Nat) : Nat := t - dg_v v t * 8 ^ v
theorem dg_1 : ∀ v, v < 3 → ∀ t, t < 512 → (dg_b v t + dg_v v t * 8 ^ v = t ∧ dg_v v t < 8) ∧ ((dg_v v t = 0 ↔ dg_b v t = t) ∧ dg_b v t ≤ t) := by decide +kernel
theorem dg_2 : ∀ v, v < 3 → ∀ t, t < 512 → ∀ x, x < 8 → dg_b v t + x * 8 ^ v < 512 ∧ dg_b v (dg_b v t + x * 8 ^ v) = dg_b v t ∧ dg_v v (dg_b v t + x * 8 ^ v) = x := by decide +kernel
theorem dg_eq {v t : Nat} (hv : v < 3) (ht : t < 512) : dg_b v t + dg_v v t * 8 ^ v = t := (dg_1 v hv t ht).1.1
theorem dg_lt {v t : Nat} (hv : v < 3) (ht : t < 512) : dg_v v t < 8 := (dg_1 v hv t ht).1.2
theorem dg_0 {v t : Nat} (hv : v < 3) (ht : t < 512) : dg_v v t = 0 ↔ dg_b v t = t := (dg_1 v hv t ht).2.1
theorem dg_le {v t : Nat} (hv : v < 3) (ht : t < 512) : dg_b v t ≤ t := (dg_1 v hv t ht).2.2
theorem dg_l {v t x : Nat} (hv : v < 3) (ht : t < 512) (hx : x < 8) : dg_b v t + x * 8 ^ v < 512 := (dg_2 v hv t ht x hx).1
theorem dg_lb {v t x : Nat} (hv : v < 3) (ht : t < 512) (hx : x < 8) : dg_b v (dg_b v t + x * 8 ^ v) = dg_b v t := (dg_2 v hv t ht x hx).2.1
theorem dg_lv {v t x : Nat} (hv : v < 3) (ht : t < 512) (hx : x < 8) : dg_v v (dg_b v t + x * 8 ^ v) = x := (dg_2 v hv t ht x hx).2.2
theorem dg_bb {v t : Nat} (hv : v < 3) (ht : t < 512) : dg_b v (dg_b v t) = dg_b v t := by
  have h := dg_lb hv ht (x := 0) (by decide)
  rw [Nat.zero_mul, Nat.add_zero] at h
  exact h
theorem dg_bl {v t : Nat} (hv : v < 3) (ht : t < 512) : dg_b v t < 512 := Nat.lt_of_le_of_lt (dg_le hv ht) ht
/-! a line filled -/
def li_a (s : Nat → Int32) (F S : Nat) (x : Int32) : Nat → Nat → Int32
  | 0 => s
  | n + 1 => upd (li_a s F S x n) (F + n * S) x
theorem li_in {s : Nat → Int32} {F S : Nat} {x : Int32} : ∀ n i, i < n → li_a s F S x n (F + i * S) = x := by
  intro n
  induction n with
  | zero => intro i hi; omega
  | succ n ih =>
    intro i hi
    show upd (li_a s F S x n) (F + n * S) x (F + i * S) = x
    by_cases e : F + i * S = F + n * S
    · rw [e, pk_us]
    · rw [pk_un e]
      refine ih i ?_
      have : i ≠ n := fun z => e (by rw [z])
      omega
theorem li_out {s : Nat → Int32} {F S j : Nat} {x : Int32} : ∀ n, (∀ i, i < n → j ≠ F + i * S) → li_a s F S x n j = s j := by
  intro n
  induction n with
  | zero => intro _; rfl
  | succ n ih =>
    intro h
    show upd (li_a s F S x n) (F + n * S) x j = s j
    rw [pk_un (h n (Nat.lt_succ_self n))]
    exact ih (fun i hi => h i (by omega))
theorem li_01 {s : Nat → Int32} {F S : Nat} {x : Int32} (hs : bo_a s) (hx : x = 0 ∨ x = 1) : ∀ n, bo_a (li_a s F S x n) := by
  intro n
  induction n with
  | zero => exact hs
  | succ n ih =>
    intro j
    show upd (li_a s F S x n) (F + n * S) x j = 0 ∨ upd (li_a s F S x n) (F + n * S) x j = 1
    by_cases e : j = F + n * S
    · rw [e, pk_us]; exact hx
    · rw [pk_un e]; exact ih j
/-! lines answered up to a base -/
def qu_a (a : Nat → Int32) (T v n : Nat) (G : Nat → Int32) : Nat → Int32 := fun j => if (T ≤ j ∧ j < T + 512) ∧ dg_b v (j - T) < n then G (dg_b v (j - T)) else a j
theorem qu_pos {a G : Nat → Int32} {T v n j : Nat} (h : (T ≤ j ∧ j < T + 512) ∧ dg_b v (j - T) < n) : qu_a a T v n G j = G (dg_b v (j - T)) := if_pos h
theorem qu_out {a G : Nat → Int32} {T v n j : Nat} (h : ¬ ((T ≤ j ∧ j < T + 512) ∧ dg_b v (j - T) < n)) : qu_a a T v n G j = a j := if_neg h
theorem qu_0 {a G : Nat → Int32} {T v : Nat} : qu_a a T v 0 G = a := by
  funext j
  exact qu_out (fun h => Nat.not_lt_zero _ h.2)
theorem qu_01 {a G : Nat → Int32} {T v n : Nat} (ha : bo_a a) (hG : ∀ i, G i = 0 ∨ G i = 1) : bo_a (qu_a a T v n G) := by
  intro j
  by_cases h : (T ≤ j ∧ j < T + 512) ∧ dg_b v (j - T) < n
  · rw [qu_pos h]; exact hG _
  · rw [qu_out h]; exact ha j
theorem qu_keep {a G : Nat → Int32} {T v n : Nat} (hv : v < 3) (hn : n < 512) (h : ¬ dg_v v n = 0) : qu_a a T v (n + 1) G = qu_a a T v n G := by
  funext j
  by_cases hr : T ≤ j ∧ j < T + 512
  · have ht : j - T < 512 := by omega
    have hb : dg_b v (j - T) ≠ n := by
      intro e
      have h1 := dg_bb hv ht
      rw [e] at h1
      exact h ((dg_0 hv hn).mpr h1)
    by_cases hl : dg_b v (j - T) < n
    · rw [qu_pos ⟨hr, hl⟩, qu_pos ⟨hr, by omega⟩]
    · rw [qu_out (fun z => hl z.2), qu_out (fun z => by have := z.2; omega)]
  · rw [qu_out (fun z => hr z.1), qu_out (fun z => hr z.1)]
theorem qu_read {a G : Nat → Int32} {T v n x : Nat} (hv : v < 3) (hn : n < 512) (h : dg_v v n = 0) (hx : x < 8) : qu_a a T v n G (T + n + x * 8 ^ v) = a (T + n + x * 8 ^ v) := by
  refine qu_out (fun z => ?_)
  have h1 := z.2
  have h2 := (dg_0 hv hn).mp h
  have h3 := dg_lb hv hn hx
  rw [h2] at h3
  rw [Nat.add_assoc, Nat.add_sub_cancel_left, h3] at h1
  omega
theorem qu_line {a G : Nat → Int32} {T v n : Nat} (hv : v < 3) (hn : n < 512) (h : dg_v v n = 0) : li_a (qu_a a T v n G) (T + n) (8 ^ v) (G n) 8 = qu_a a T v (n + 1) G := by
  have hb := (dg_0 hv hn).mp h
  funext j
  by_cases hr : T ≤ j ∧ j < T + 512
  · have ht : j - T < 512 := by omega
    by_cases e : dg_b v (j - T) = n
    · have h1 := dg_eq hv ht
      have h2 : j = T + n + dg_v v (j - T) * 8 ^ v := by omega
      rw [qu_pos ⟨hr, by omega⟩, e]
      have h3 := li_in (s := qu_a a T v n G) (F := T + n) (S := 8 ^ v) (x := G n) 8 (dg_v v (j - T)) (dg_lt hv ht)
      rw [← h2] at h3
      exact h3
    · rw [li_out 8 (fun i hi z => e (by
        have h1 : j - T = dg_b v n + i * 8 ^ v := by rw [hb]; omega
        rw [h1, dg_lb hv hn hi, hb]))]
      by_cases hl : dg_b v (j - T) < n
      · rw [qu_pos ⟨hr, hl⟩, qu_pos ⟨hr, by omega⟩]
      · rw [qu_out (fun z => hl z.2), qu_out (fun z => by have := z.2; omega)]
  · rw [li_out 8 (fun i hi z => hr (by
      have h1 := dg_l hv hn hi
      rw [hb] at h1
      omega))]
    rw [qu_out (fun z => hr z.1), qu_out (fun z => hr z.1)]
theorem qu_end {a G g : Nat → Int32} {T v : Nat} (hv : v < 3) (h : ∀ t, t < 512 → G (dg_b v t) = g t) : qu_a a T v 512 G = fi_l a T 512 g := by
  funext j
  by_cases hr : T ≤ j ∧ j < T + 512
  · have ht : j - T < 512 := by omega
    rw [qu_pos ⟨hr, dg_bl hv ht⟩, fi_pos hr]
    exact h _ ht
  · rw [qu_out (fun z => hr z.1), fi_out hr]
/-! cells exchanged in pairs -/
def sw_a (a : Nat → Int32) (T : Nat) (f : Nat → Nat) (n : Nat) : Nat → Int32 := fun j => if (T ≤ j ∧ j < T + 512) ∧ (j - T < n ∨ f (j - T) < n) then a (T + f (j - T)) else a j
theorem sw_pos {a : Nat → Int32} {T n j : Nat} {f : Nat → Nat} (h : (T ≤ j ∧ j < T + 512) ∧ (j - T < n ∨ f (j - T) < n)) : sw_a a T f n j = a (T + f (j - T)) := if_pos h
theorem sw_out {a : Nat → Int32} {T n j : Nat} {f : Nat → Nat} (h : ¬ ((T ≤ j ∧ j < T + 512) ∧ (j - T < n ∨ f (j - T) < n))) : sw_a a T f n j = a j := if_neg h
theorem sw_0 {a : Nat → Int32} {T : Nat} {f : Nat → Nat} : sw_a a T f 0 = a := by
  funext j
  exact sw_out (fun h => h.2.elim (Nat.not_lt_zero _) (Nat.not_lt_zero _))
theorem sw_01 {a : Nat → Int32} {T n : Nat} {f : Nat → Nat} (ha : bo_a a) : bo_a (sw_a a T f n) := by
  intro j
  by_cases h : (T ≤ j ∧ j < T + 512) ∧ (j - T < n ∨ f (j - T) < n)
  · rw [sw_pos h]; exact ha _
  · rw [sw_out h]; exact ha j
theorem sw_keep {a : Nat → Int32} {T n : Nat} {f : Nat → Nat} (hf : ∀ t, t < 512 → f t < 512 ∧ f (f t) = t) (hn : n < 512) (h : ¬ n < f n) : sw_a a T f (n + 1) = sw_a a T f n := by
  funext j
  by_cases hr : T ≤ j ∧ j < T + 512
  · have ht : j - T < 512 := by omega
    by_cases hl : j - T < n ∨ f (j - T) < n
    · rw [sw_pos ⟨hr, hl⟩, sw_pos ⟨hr, by omega⟩]
    · rw [sw_out (n := n) (fun z => hl z.2)]
      by_cases hl2 : j - T < n + 1 ∨ f (j - T) < n + 1
      · rw [sw_pos ⟨hr, hl2⟩]
        have hff := (hf _ ht).2
        have e : f (j - T) = j - T := by
          by_cases e1 : j - T = n
          · have h3 : ¬ f (j - T) < n := fun z => hl (Or.inr z)
            rw [e1] at h3 ⊢
            omega
          · have e2 : f (j - T) = n := by omega
            rw [e2] at hff
            omega
        rw [e]
        exact congrArg a (by omega)
      · exact sw_out (fun z => hl2 z.2)
  · rw [sw_out (fun z => hr z.1), sw_out (fun z => hr z.1)]
theorem sw_ra {a : Nat → Int32} {T n : Nat} {f : Nat → Nat} (h : n < f n) : sw_a a T f n (T + n) = a (T + n) := by
  refine sw_out (fun z => ?_)
  have h1 := z.2
  rw [Nat.add_sub_cancel_left] at h1
  omega
theorem sw_rb {a : Nat → Int32} {T n : Nat} {f : Nat → Nat} (hf : ∀ t, t < 512 → f t < 512 ∧ f (f t) = t) (hn : n < 512) (h : n < f n) : sw_a a T f n (T + f n) = a (T + f n) := by
  refine sw_out (fun z => ?_)
  have h1 := z.2
  rw [Nat.add_sub_cancel_left, (hf n hn).2] at h1
  omega
theorem sw_swap {a : Nat → Int32} {T n : Nat} {f : Nat → Nat} (hf : ∀ t, t < 512 → f t < 512 ∧ f (f t) = t) (hn : n < 512) (h : n < f n) :
    upd (upd (sw_a a T f n) (T + n) (sw_a a T f n (T + f n))) (T + f n) (sw_a a T f n (T + n)) = sw_a a T f (n + 1) := by
  rw [sw_ra h, sw_rb hf hn h]
  have hfn := hf n hn
  funext j
  by_cases e1 : j = T + f n
  · rw [e1, pk_us]
    have hj : T + f n - T = f n := Nat.add_sub_cancel_left _ _
    rw [sw_pos ⟨⟨Nat.le_add_right _ _, by omega⟩, by rw [hj, hfn.2]; omega⟩, hj, hfn.2]
  · rw [pk_un e1]
    by_cases e2 : j = T + n
    · rw [e2, pk_us]
      have hj : T + n - T = n := Nat.add_sub_cancel_left _ _
      rw [sw_pos ⟨⟨Nat.le_add_right _ _, by omega⟩, by rw [hj]; omega⟩, hj]
    · rw [pk_un e2]
      by_cases hr : T ≤ j ∧ j < T + 512
      · have ht : j - T < 512 := by omega
        have hft := hf _ ht
        have h3 : f (j - T) ≠ n := by
          intro z
          rw [z] at hft
          exact e1 (by omega)
        by_cases hl : j - T < n ∨ f (j - T) < n
        · rw [sw_pos ⟨hr, hl⟩, sw_pos ⟨hr, by omega⟩]
        · rw [sw_out (fun z => hl z.2), sw_out (fun z => by have := z.2; omega)]
      · rw [sw_out (fun z => hr z.1), sw_out (fun z => hr z.1)]
theorem sw_end {a : Nat → Int32} {T : Nat} {f : Nat → Nat} : sw_a a T f 512 = fi_l a T 512 (fun t => a (T + f t)) := by
  funext j
  by_cases hr : T ≤ j ∧ j < T + 512
  · rw [sw_pos ⟨hr, Or.inl (by omega)⟩, fi_pos hr]
  · rw [sw_out (fun z => hr z.1), fi_out hr]
/-! the two rearrangements -/
def dg_ex (u v t : Nat) : Nat := dg_b v (dg_b u t + dg_v v t * 8 ^ u) + dg_v u t * 8 ^ v
def dg_mi (v t : Nat) : Nat := dg_b v t + (7 - dg_v v t) * 8 ^ v
theorem dg_exf : ∀ u, u < 3 → ∀ v, v < 3 → ∀ t, t < 512 → dg_ex u v t < 512 ∧ dg_ex u v (dg_ex u v t) = t := by decide +kernel
theorem dg_mif : ∀ v, v < 3 → ∀ t, t < 512 → dg_mi v t < 512 ∧ dg_mi v (dg_mi v t) = t := by decide +kernel
