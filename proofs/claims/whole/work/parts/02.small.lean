/-! numbers of triples as the two sides reckon them -/
theorem dn_val : ∀ v, v < 3 → ∀ t, t < 512 → (nI t >>> ((3 * nI v) &&& 31)) &&& 7 = nI (dg_v v t) := by decide +kernel
theorem dn_step : ∀ v, v < 3 → (1 : Int32) <<< ((3 * nI v) &&& 31) = nI (8 ^ v) := by decide +kernel
theorem dn_with : ∀ v, v < 3 → ∀ t, t < 512 → ∀ x, x < 8 → (nI t &&& (((7 : Int32) <<< ((3 * nI v) &&& 31)) ^^^ (-1))) ||| (nI x <<< ((3 * nI v) &&& 31)) = nI (dg_b v t + x * 8 ^ v) := by decide +kernel
theorem dn_ex : ∀ u, u < 3 → ∀ v, v < 3 → ∀ t, t < 512 → (nI t + ((((nI t >>> ((3 * nI v) &&& 31)) &&& 7) - ((nI t >>> ((3 * nI u) &&& 31)) &&& 7)) * ((1 : Int32) <<< ((3 * nI u) &&& 31)))) - ((((nI t >>> ((3 * nI v) &&& 31)) &&& 7) - ((nI t >>> ((3 * nI u) &&& 31)) &&& 7)) * ((1 : Int32) <<< ((3 * nI v) &&& 31))) = nI (dg_ex u v t) := by decide +kernel
theorem dn_mi : ∀ v, v < 3 → ∀ t, t < 512 → nI t + (((7 - ((nI t >>> ((3 * nI v) &&& 31)) &&& 7)) - ((nI t >>> ((3 * nI v) &&& 31)) &&& 7)) * ((1 : Int32) <<< ((3 * nI v) &&& 31))) = nI (dg_mi v t) := by decide +kernel
theorem dn_or : ∀ m, m < 256 → ∀ x, x < 8 → nI m ||| ((1 : Int32) <<< (nI x &&& 31)) = nI (m ||| 2 ^ x) ∧ m ||| 2 ^ x < 256 := by decide +kernel
theorem dn_bit : ∀ m, m < 256 → ∀ x, x < 8 → (nI m >>> (nI x &&& 31)) &&& 1 = nI (if m.testBit x = true then 1 else 0) := by decide +kernel
/-! where a formula begins, where its cells lie -/
theorem ti_x (d : Nat) : nI d * 512 = nI (d * 512) := pk_mul d 512
theorem ti_y (d : Nat) : 512 * nI d = nI (d * 512) := (pk_mul 512 d).trans (congrArg nI (Nat.mul_comm 512 d))
theorem ti_top (d : Nat) : (nI (d + 1) - 1) * 512 = nI (d * 512) := by
  rw [nI_pred]; exact ti_x d
theorem ti_2 (d : Nat) : nI (d + 2) - 2 = nI d := pk_sub (a := d + 2) (b := 2) (by omega)
theorem ce_in {T t : Nat} (h : T + t < 2560) : vp_in (nI T + nI t) 2560 := pk_in (T + t) 2560 h (nI_add T t) (by decide)
theorem ce_cl {T t : Nat} (h : T + t < 2560) : (nI T + nI t).toNatClampNeg = T + t := pk_cl (T + t) (nI_add T t) (by omega)
theorem cl_in {F S i : Nat} (h : F + i * S < 2560) : vp_in (nI F + nI i * nI S) 2560 := pk_in (F + i * S) 2560 h (by rw [pk_mul, nI_add]) (by decide)
theorem cl_cl {F S i : Nat} (h : F + i * S < 2560) : (nI F + nI i * nI S).toNatClampNeg = F + i * S := pk_cl (F + i * S) (by rw [pk_mul, nI_add]) (by omega)
theorem le_512 : (512 : Int32) ≤ nI 512 := by decide +kernel
theorem le_8 : (8 : Int32) ≤ nI 8 := by decide +kernel
theorem lt_512 {i : Nat} (h : i < 512) : ¬ (512 : Int32) ≤ nI i := nI_ge (b := 512) h (by decide)
theorem lt_8 {i : Nat} (h : i < 8) : ¬ (8 : Int32) ≤ nI i := nI_ge (b := 8) h (by decide)
theorem st_s {s s' g : Nat → Int32} {T i : Nat} {x : Int32} (hs : s' = fi_l s T i g) (h : T + i < 2560) (hx : x = g i) : upd s' (nI T + nI i).toNatClampNeg x = fi_l s T (i + 1) g := by
  rw [ce_cl h, hs]; exact fi_s hx
theorem rd_f {s s' g : Nat → Int32} {T i : Nat} (hs : s' = fi_l s T i g) (h : T + i < 2560) : s' (nI T + nI i).toNatClampNeg = s (T + i) := by
  rw [ce_cl h, hs]; exact fi_out (by omega)
theorem rd_o {s s' g : Nat → Int32} {T R n i : Nat} (hs : s' = fi_l s T n g) (h : R + i < 2560) (ho : R + i < T ∨ T + n ≤ R + i) : s' (nI R + nI i).toNatClampNeg = s (R + i) := by
  rw [ce_cl h, hs]; exact fi_out (by omega)
theorem rd_c {s : Nat → Int32} {T i : Nat} (h : T + i < 2560) : s (nI T + nI i).toNatClampNeg = s (T + i) := by
  rw [ce_cl h]
theorem ng_0 {x : Int32} {p : Prop} (hx : x = 0) (h : ¬ p) : vp_nar .boolean x = pb_of p := by
  rw [hx, pb_f h]; exact bo_0
theorem ng_1 {x : Int32} {p : Prop} (hx : x = 1) (h : p) : vp_nar .boolean x = pb_of p := by
  rw [hx, pb_t h]; exact bo_1
/-! X's small methods -/
def ws_i (a b c t : Int32) : Int32 := ((a * ((t >>> (((3 : Int32) * 0) &&& 31)) &&& 7)) + (b * ((t >>> (((3 : Int32) * 1) &&& 31)) &&& 7))) + (c * ((t >>> (((3 : Int32) * 2) &&& 31)) &&& 7))
theorem xs_ws {post : Int32 → Prop} {a b c t : Int32} (h : post (ws_i a b c t)) : wpX_weightedSum post a b c t := h
theorem xs_val {post : Int32 → Prop} {v t : Nat} (hv : v < 3) (ht : t < 512) (h : post (nI (dg_v v t))) : wpX_valueOf post (nI t) (nI v) :=
  (congrArg post (dn_val v hv t ht)).mpr h
theorem xs_st {post : Int32 → Prop} {v : Nat} (hv : v < 3) (h : post (nI (8 ^ v))) : wpX_stepOf post (nI v) :=
  (congrArg post (dn_step v hv)).mpr h
theorem xs_ex {post : Int32 → Prop} {u v t : Nat} (hu : u < 3) (hv : v < 3) (ht : t < 512) (h : post (nI (dg_ex u v t))) : wpX_exchangedNumber post (nI t) (nI u) (nI v) := by
  intro x hx
  subst hx
  exact (congrArg post (dn_ex u hu v hv t ht)).mpr h
theorem xs_mi {post : Int32 → Prop} {v t : Nat} (hv : v < 3) (ht : t < 512) (h : post (nI (dg_mi v t))) : wpX_mirroredNumber post (nI t) (nI v) := by
  intro x hx
  subst hx
  exact (congrArg post (dn_mi v hv t ht)).mpr h
theorem xs_top {post : Int32 → Prop} {d : Nat} {s : Nat → Int32} (h : post (nI (d * 512))) : wpX_topStart post (nI (d + 1), s) :=
  (congrArg post (ti_top d)).mpr h
def co_ok (p : Int32) : Prop := ¬ p < (-4) ∧ ¬ 4 < p
theorem xs_co_t {post : Int32 → Prop} {p : Int32} (c : co_ok p) (h : post 1) : wpX_isCoefficient post p := br_f c.1 (br_f c.2 h)
theorem xs_co_f {post : Int32 → Prop} {p : Int32} (c : ¬ co_ok p) (h : post 0) : wpX_isCoefficient post p :=
  br_c (fun _ => h) (fun z => br_c (fun _ => h) (fun y => absurd ⟨z, y⟩ c))
theorem xs_va_t {post : Int32 → Prop} {v : Nat} (hv : v < 3) (h : post 1) : wpX_isVariable post (nI v) :=
  br_f (nI_pos (by omega)) (br_f (nI_ge (b := 3) hv (by decide)) h)
theorem xs_va_f {post : Int32 → Prop} {p : Int32} (c : ¬ ∃ v : Nat, v < 3 ∧ p = nI v) (h : post 0) : wpX_isVariable post p :=
  br_c (fun _ => h) (fun z => br_c (fun _ => h) (fun y => by
    obtain ⟨j, hj, e⟩ := nI_of z
    refine absurd ⟨j, ?_, e⟩ c
    rw [e] at y
    exact Nat.lt_of_not_le (fun w => y (nI_le (a := 3) w hj))))
theorem xs_pl_t {post : Int32 → Prop} {p d : Nat} {s : Nat → Int32} (hd : d ≤ 5) (hp : p < d) (h : post 1) : wpX_isPlace post (nI d, s) (nI p) :=
  br_f (nI_pos (by omega)) (br_f (nI_ge hp (by omega)) h)
theorem xs_pl_f {post : Int32 → Prop} {p : Int32} {d : Nat} {s : Nat → Int32} (c : ¬ ∃ j : Nat, j < d ∧ p = nI j) (h : post 0) : wpX_isPlace post (nI d, s) p :=
  br_c (fun _ => h) (fun z => br_c (fun _ => h) (fun y => by
    obtain ⟨j, hj, e⟩ := nI_of z
    refine absurd ⟨j, ?_, e⟩ c
    rw [e] at y
    exact Nat.lt_of_not_le (fun w => y (nI_le w hj))))
theorem xs_sw {post : SX → Prop} {H p q : Int32} {s : Nat → Int32} {i j : Nat} (hs : bo_a s) (hi : i < 2560) (hj : j < 2560) (hp : p = nI i) (hq : q = nI j)
    (h : post (H, upd (upd s i (s j)) j (s i))) : wpX_swapCells post (H, s) p q := by
  subst hp hq
  have ei : (nI i).toNatClampNeg = i := nI_clamp (by omega)
  have ej : (nI j).toNatClampNeg = j := nI_clamp (by omega)
  have pi : vp_in (nI i) 2560 := vp_in_nI hi (by decide)
  have pj : vp_in (nI j) 2560 := vp_in_nI hj (by decide)
  refine ⟨pi, nm_r (e' := s i) (by rw [ei]) ⟨pj, pi, nm_r (e' := upd s i (s j)) (by rw [ei, ej, bo_v (hs j)]) ⟨pj, nm_r (e' := upd (upd s i (s j)) j (s i)) (by rw [ej, bo_v (hs i)]) h⟩⟩⟩
/-! joining -/
def jo_p : Nat → Int32 → Int32 → Prop
  | 1, x, y => ¬ x = 0 ∧ ¬ y = 0
  | 2, x, y => ¬ x = 0 ∨ ¬ y = 0
  | 3, x, y => ¬ x = y
  | _, x, y => x = 0 ∨ ¬ y = 0
theorem jo_and {post : Int32 → Prop} {x y : Int32} (h : post (pb_of (¬ x = 0 ∧ ¬ y = 0))) : (x = 0 → post 0) ∧ (¬ x = 0 → ((y = 0 → post 0) ∧ (¬ y = 0 → post 1))) :=
  br_c (fun a => by rw [pb_f (fun z => z.1 a)] at h; exact h) (fun a => br_c (fun b => by rw [pb_f (fun z => z.2 b)] at h; exact h) (fun b => by rw [pb_t ⟨a, b⟩] at h; exact h))
theorem jo_or {post : Int32 → Prop} {x y : Int32} (h : post (pb_of (¬ x = 0 ∨ ¬ y = 0))) : (x = 0 → ((y = 0 → post 0) ∧ (¬ y = 0 → post 1))) ∧ (¬ x = 0 → post 1) :=
  br_c (fun a => br_c (fun b => by rw [pb_f (fun z => z.elim (fun w => w a) (fun w => w b))] at h; exact h) (fun b => by rw [pb_t (Or.inr b)] at h; exact h)) (fun a => by rw [pb_t (Or.inl a)] at h; exact h)
theorem jo_xor {post : Int32 → Prop} {x y : Int32} (h : post (pb_of (¬ x = y))) : (x = y → post 0) ∧ (¬ x = y → post 1) :=
  br_c (fun a => by rw [pb_f (fun z => z a)] at h; exact h) (fun a => by rw [pb_t a] at h; exact h)
theorem jo_imp {post : Int32 → Prop} {x y : Int32} (h : post (pb_of (x = 0 ∨ ¬ y = 0))) : (x = 0 → post 1) ∧ (¬ x = 0 → ((y = 0 → post 0) ∧ (¬ y = 0 → post 1))) :=
  br_c (fun a => by rw [pb_t (Or.inl a)] at h; exact h) (fun a => br_c (fun b => by rw [pb_f (fun z => z.elim a (fun w => w b))] at h; exact h) (fun b => by rw [pb_t (Or.inr b)] at h; exact h))
theorem xs_jo {post : Int32 → Prop} {k : Nat} {x y : Int32} (h1 : 1 ≤ k) (h4 : k ≤ 4) (h : post (pb_of (jo_p k x y))) : wpX_joined post (nI k) x y := by
  match k, h1, h4, h with
  | 1, _, _, h => exact br_f (by decide) (br_f (by decide) (br_t (by decide) (jo_and h)))
  | 2, _, _, h => exact br_f (by decide) (br_f (by decide) (br_f (by decide) (br_t (by decide) (jo_or h))))
  | 3, _, _, h => exact br_f (by decide) (br_f (by decide) (br_f (by decide) (br_f (by decide) (br_t (by decide) (jo_xor h)))))
  | 4, _, _, h => exact br_f (by decide) (br_t (by decide) (jo_imp h))
theorem ys_jo {post : Int32 → Prop} {k : Nat} {x y D : Int32} {s o : Nat → Int32} (h1 : 1 ≤ k) (h4 : k ≤ 4) (h : post (pb_of (jo_p k x y))) : wpY_joined post (D, s, o) (nI k) x y := by
  match k, h1, h4, h with
  | 1, _, _, h => exact br_t (by decide) (jo_and h)
  | 2, _, _, h => exact br_f (by decide) (br_t (by decide) (jo_or h))
  | 3, _, _, h => exact br_f (by decide) (br_f (by decide) (br_t (by decide) (jo_xor h)))
  | 4, _, _, h => exact br_f (by decide) (br_f (by decide) (br_f (by decide) (jo_imp h)))
/-! Y's small methods -/
theorem ys_ws {post : Int32 → Prop} {a b c t D : Int32} {s o : Nat → Int32} (h : post (ws_i a b c t)) : wpY_sum post (D, s, o) t a b c := h
theorem ys_val {post : Int32 → Prop} {v t : Nat} {D : Int32} {s o : Nat → Int32} (hv : v < 3) (ht : t < 512) (h : post (nI (dg_v v t))) : wpY_value post (D, s, o) (nI t) (nI v) :=
  (congrArg post (dn_val v hv t ht)).mpr h
theorem ys_with {post : Int32 → Prop} {v t x : Nat} {D : Int32} {s o : Nat → Int32} (hv : v < 3) (ht : t < 512) (hx : x < 8) (h : post (nI (dg_b v t + x * 8 ^ v))) : wpY_with post (D, s, o) (nI t) (nI v) (nI x) :=
  (congrArg post (dn_with v hv t ht x hx)).mpr h
theorem ys_at {post : Int32 → Prop} {d : Nat} {D p : Int32} {s o : Nat → Int32} (hd : d ≤ 4) (e : p = nI d) (h : post (nI (d * 512))) : wpY_at post (D, s, o) p := by
  subst e
  exact br_t (nI_pos' (by omega)) (br_t (nI_le (b := 4) hd (by decide)) ((congrArg post (ti_y d)).mpr h))
theorem ys_co_t {post : Int32 → Prop} {p D : Int32} {s o : Nat → Int32} (c : co_ok p) (h : post 0) : wpY_far post (D, s, o) p := br_f c.1 (br_t (Int32.not_lt.mp c.2) h)
theorem ys_co_f {post : Int32 → Prop} {p D : Int32} {s o : Nat → Int32} (c : ¬ co_ok p) (h : post 1) : wpY_far post (D, s, o) p :=
  br_c (fun _ => h) (fun z => br_c (fun y => absurd ⟨z, Int32.not_lt.mpr y⟩ c) (fun _ => h))
theorem ys_va_t {post : Int32 → Prop} {v : Nat} {D : Int32} {s o : Nat → Int32} (hv : v < 3) (h : post 0) : wpY_badVar post (D, s, o) (nI v) :=
  br_f (nI_pos (by omega)) (br_t (nI_le (b := 2) (by omega) (by decide)) h)
theorem ys_va_f {post : Int32 → Prop} {p D : Int32} {s o : Nat → Int32} (c : ¬ ∃ v : Nat, v < 3 ∧ p = nI v) (h : post 1) : wpY_badVar post (D, s, o) p :=
  br_c (fun _ => h) (fun z => br_c (fun y => by
    obtain ⟨j, hj, e⟩ := nI_of z
    refine absurd ⟨j, ?_, e⟩ c
    rw [e] at y
    have w : j ≤ 2 := (nI_leI (b := 2) hj (by decide)).mp y
    omega) (fun _ => h))
theorem ys_pl_t {post : Int32 → Prop} {p d : Nat} {s o : Nat → Int32} (hd : d ≤ 5) (hp : p < d) (h : post 0) : wpY_badPlace post (nI d, s, o) (nI p) :=
  br_f (nI_pos (by omega)) (br_f (nI_ge hp (by omega)) (br_t (nI_le (b := 4) (by omega) (by decide)) h))
theorem ys_pl_f {post : Int32 → Prop} {p : Int32} {d : Nat} {s o : Nat → Int32} (hd : d ≤ 5) (c : ¬ ∃ j : Nat, j < d ∧ p = nI j) (h : post 1) : wpY_badPlace post (nI d, s, o) p :=
  br_c (fun _ => h) (fun z => br_c (fun _ => h) (fun y => by
    obtain ⟨j, hj, e⟩ := nI_of z
    refine absurd ⟨j, ?_, e⟩ c
    rw [e] at y
    exact Nat.lt_of_not_le (fun w => y (nI_le w hj))))
