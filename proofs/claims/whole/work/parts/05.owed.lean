/-- one height, one array of cells, each 0 or 1; the reference's spare array is free -/
def i_Rel (_ : Nat) (u : SX) (v : SY) : Prop := ∃ (d : Nat) (a o : Nat → Int32), d ≤ 5 ∧ bo_a a ∧ u = (nI d, a) ∧ v = (nI d, a, o)
theorem i_up {k : Nat} {u : SX} {v : SY} (h : i_Rel k u v) : i_Rel (k + 5) u v := h
theorem re_i {k d : Nat} {a o : Nat → Int32} (hd : d ≤ 5) (ha : bo_a a) : i_Rel k (nI d, a) (nI d, a, o) := ⟨d, a, o, hd, ha, rfl, rfl⟩
theorem i_vc0 : wpX_init (fun u => wpY_init (fun v => i_Rel 0 u v)) := re_i (k := 0) (d := 0) (by decide) (fun _ => Or.inl rfl)
theorem i_vc_depth {k : Nat} {u : SX} {v : SY} (I : i_Rel k u v) (hk : k + 5 ≤ 2560) : wpX_depth (fun r => wpY_depth (fun r' => r' = r ∧ i_Rel (k + 5) u v) v) u := by
  obtain ⟨d, a, o, hd, ha, rfl, rfl⟩ := I
  exact ⟨rfl, re_i hd ha⟩
theorem lt_5 {d : Nat} (h : d < 5) : nI d < 5 := nI_lt (b := 5) h (by decide)
theorem eq_5 {d : Nat} (hd : d ≤ 5) (h : ¬ d < 5) : nI d = 5 ∧ ¬ nI d < 5 := by
  have e : d = 5 := by omega
  subst e
  exact ⟨by decide, by decide⟩
theorem ne_5 {d : Nat} (h : d < 5) : ¬ nI d = 5 := fun z => by
  have := (nI_eq (b := 5) (by omega) (by decide)).mp z
  omega
theorem i_vc_atMost {k : Nat} {u : SX} {v : SY} (I : i_Rel k u v) (hk : k + 5 ≤ 2560) (v1 : Int32) (v2 : Int32) (v3 : Int32) (v4 : Int32) : wpX_atMost (fun r u' => wpY_atMost (fun r' v' => r' = r ∧ i_Rel (k + 5) u' v') v v1 v2 v3 v4) u v1 v2 v3 v4 := by
  obtain ⟨d, a, o, hd, ha, rfl, rfl⟩ := I
  have hI := re_i (k := k + 5) (o := o) hd ha
  unfold wpX_atMost wpY_atMost
  dsimp only
  by_cases c1 : co_ok v1
  · refine xs_co_t c1 (br_f (by decide) ?_)
    by_cases c2 : co_ok v2
    · refine xs_co_t c2 (br_f (by decide) ?_)
      by_cases c3 : co_ok v3
      · refine xs_co_t c3 (br_f (by decide) ?_)
        refine br_c (fun hn => ys_co_t c1 (br_t rfl (ys_co_t c2 (br_t rfl (ys_co_t c3 (br_t rfl (br_t hn ⟨rfl, hI⟩))))))) (fun hn => br_c (fun hp => ?_) (fun hp => ys_co_t c1 (br_t rfl (ys_co_t c2 (br_t rfl (ys_co_t c3 (br_t rfl (br_f hn (br_f hp ⟨rfl, hI⟩)))))))))
        by_cases h5 : d < 5
        · refine br_t (lt_5 h5) (nm_r (ti_x d) (xl_atMost h5 ?_))
          exact ys_co_t c1 (br_t rfl (ys_co_t c2 (br_t rfl (ys_co_t c3 (br_t rfl (br_f hn (br_t hp (br_f (ne_5 h5) (ys_at (by omega) rfl (yl_atMost h5 ⟨rfl, re_i (by omega) (fi_01 ha (fun t _ => pb_01 _))⟩)))))))))) 
        · have e := eq_5 hd h5
          exact br_f e.2 (ys_co_t c1 (br_t rfl (ys_co_t c2 (br_t rfl (ys_co_t c3 (br_t rfl (br_f hn (br_t hp (br_t e.1 ⟨rfl, hI⟩)))))))))
      · exact xs_co_f c3 (br_t rfl (ys_co_t c1 (br_t rfl (ys_co_t c2 (br_t rfl (ys_co_f c3 (br_f (by decide) ⟨rfl, hI⟩)))))))
    · exact xs_co_f c2 (br_t rfl (ys_co_t c1 (br_t rfl (ys_co_f c2 (br_f (by decide) ⟨rfl, hI⟩)))))
  · exact xs_co_f c1 (br_t rfl (ys_co_f c1 (br_f (by decide) ⟨rfl, hI⟩)))
theorem mo_le {m r : Int32} (h2 : ¬ m < 2) (h7 : m ≤ 7) : r < m ↔ r ≤ m - 1 := by
  obtain ⟨j, hj, e⟩ := nI_of2 (x := m) (M := 7) (n := 7) (by decide) (fun z => h2 (Int32.lt_trans z (by decide))) h7
  subst e
  rw [Int32.lt_iff_toInt_lt, Int32.le_iff_toInt_le]
  have h0 : 2 ≤ j := Nat.le_of_not_lt (fun z => h2 (nI_lt (b := 2) z (by decide)))
  obtain ⟨i, rfl⟩ : ∃ i, j = i + 1 := ⟨j - 1, by omega⟩
  rw [nI_pred, nI_toInt (by omega), nI_toInt (by omega)]
  omega
theorem mo_0 {m : Int32} (h2 : ¬ m < 2) : ¬ m = 0 := fun z => h2 (by rw [z]; decide)
theorem i_vc_congruent {k : Nat} {u : SX} {v : SY} (I : i_Rel k u v) (hk : k + 5 ≤ 2560) (v1 : Int32) (v2 : Int32) (v3 : Int32) : wpX_congruent (fun r u' => wpY_congruent (fun r' v' => r' = r ∧ i_Rel (k + 5) u' v') v v1 v2 v3) u v1 v2 v3 := by
  obtain ⟨d, a, o, hd, ha, rfl, rfl⟩ := I
  have hI := re_i (k := k + 5) (o := o) hd ha
  unfold wpX_congruent wpY_congruent
  dsimp only
  refine br_c (fun a1 => br_t a1 ⟨rfl, hI⟩) (fun a1 => br_c (fun a2 => ?_) (fun a2 => br_f a1 (br_f a2 ⟨rfl, hI⟩)))
  refine br_c (fun b1 => br_f a1 (br_t a2 (br_t b1 ⟨rfl, hI⟩))) (fun b1 => br_c (fun b2 => ?_) (fun b2 => br_f a1 (br_t a2 (br_f b1 (br_f b2 ⟨rfl, hI⟩)))))
  have hm := mo_le (r := v3) b1 b2
  refine br_c (fun c1 => br_f a1 (br_t a2 (br_f b1 (br_t b2 (br_t c1 ⟨rfl, hI⟩))))) (fun c1 => br_c (fun c2 => ?_) (fun c2 => br_f a1 (br_t a2 (br_f b1 (br_t b2 (br_f c1 (br_f (fun z => c2 (hm.mpr z)) ⟨rfl, hI⟩)))))))
  by_cases h5 : d < 5
  · refine br_t (lt_5 h5) ⟨by decide, nm_e ⟨by decide, by decide, nm_e ⟨by decide, nm_e (nm_r (ti_x d) (xl_congruent h5 (mo_0 b1) ?_))⟩⟩⟩
    refine br_f a1 (br_t a2 (br_f b1 (br_t b2 (br_f c1 (br_t (hm.mp c2) (br_f (ne_5 h5) ?_))))))
    exact ⟨by decide, nm_e ⟨by decide, by decide, nm_e ⟨by decide, nm_e (ys_at (by omega) rfl (yl_congruent h5 (mo_0 b1) ⟨rfl, re_i (by omega) (fi_01 ha (fun t _ => pb_01 _))⟩))⟩⟩⟩
  · have e := eq_5 hd h5
    exact br_f e.2 (br_f a1 (br_t a2 (br_f b1 (br_t b2 (br_f c1 (br_t (hm.mp c2) (br_t e.1 ⟨rfl, hI⟩)))))))
theorem i_vc_connect {k : Nat} {u : SX} {v : SY} (I : i_Rel k u v) (hk : k + 5 ≤ 2560) (v1 : Int32) : wpX_connect (fun r u' => wpY_connect (fun r' v' => r' = r ∧ i_Rel (k + 5) u' v') v v1) u v1 := by
  obtain ⟨d, a, o, hd, ha, rfl, rfl⟩ := I
  have hI := re_i (k := k + 5) (o := o) hd ha
  unfold wpX_connect wpY_connect
  dsimp only
  refine br_c (fun a1 => br_t a1 ⟨rfl, hI⟩) (fun a1 => br_c (fun a2 => ?_) (fun a2 => br_f a1 (br_f a2 ⟨rfl, hI⟩)))
  obtain ⟨j, hj, e⟩ := nI_of2 (x := v1) (M := 4) (n := 4) (by decide) a1 a2
  subst e
  unfold wX_connect_20 wY_connect_24
  by_cases h0 : j = 0
  · subst h0
    refine br_t nI_0 ?_
    by_cases h1 : 1 ≤ d
    · obtain ⟨e, rfl⟩ : ∃ e, d = e + 1 := ⟨d - 1, by omega⟩
      have hle : (1 : Int32) ≤ nI (e + 1) := nI_le (a := 1) (by omega) (by omega)
      refine br_t hle (br_t nI_0 (xl_negate (by omega) ?_))
      exact br_f a1 (br_t a2 (br_t nI_0 (br_t hle (ys_at (d := e) (by omega) (nI_pred e) (br_t nI_0 (yl_negate (by omega) ⟨rfl, re_i (by omega) (fi_01 ha (fun t _ => pb_01 _))⟩))))))
    · have hle : ¬ (1 : Int32) ≤ nI d := nI_ge (b := 1) (by omega) (by decide)
      exact br_f hle (br_f a1 (br_t a2 (br_t nI_0 (br_f hle ⟨rfl, hI⟩))))
  · have hz : ¬ nI j = 0 := nI_ne0 (by omega) (by omega)
    refine br_f hz ?_
    by_cases h1 : 2 ≤ d
    · obtain ⟨e, rfl⟩ : ∃ e, d = e + 2 := ⟨d - 2, by omega⟩
      have hle : (2 : Int32) ≤ nI (e + 2) := nI_le (a := 2) (by omega) (by omega)
      refine br_t hle (br_f hz (xl_join (by omega) (by omega) hj ?_))
      exact br_f a1 (br_t a2 (br_f hz (br_t hle (ys_at (d := e + 1) (by omega) (nI_pred (e + 1)) (br_f hz (ys_at (d := e) (by omega) (ti_2 e) (yl_join (by omega) (by omega) hj ⟨rfl, re_i (by omega) (fi_01 ha (fun t _ => pb_01 _))⟩)))))))
    · have hle : ¬ (2 : Int32) ≤ nI d := nI_ge (b := 2) (by omega) (by decide)
      exact br_f hle (br_f a1 (br_t a2 (br_f hz (br_f hle ⟨rfl, hI⟩))))
/-! the quantifiers: what the two sides hold of a line -/
theorem qe_1 {s : Nat → Int32} {T v t : Nat} (ha : bo_a s) (hv : v < 3) (ht : t < 512) : qu_g s T v 1 (dg_b v t) = qy_g s T v 1 t := by
  refine pb_c ?_
  have hq := cn_pos (p := fun x => s (T + dg_b v t + x * 8 ^ v)) 8
  have hl := cn_le (fun x => s (T + dg_b v t + x * 8 ^ v)) 8
  have e : (¬ nI (cn_t (fun x => s (T + dg_b v t + x * 8 ^ v)) 8) < 1) ↔ 1 ≤ cn_t (fun x => s (T + dg_b v t + x * 8 ^ v)) 8 := by
    have e2 : nI (cn_t (fun x => s (T + dg_b v t + x * 8 ^ v)) 8) < 1 ↔ cn_t (fun x => s (T + dg_b v t + x * 8 ^ v)) 8 < 1 := nI_ltI (b := 1) (by omega) (by decide)
    rw [e2]
    omega
  rw [e, hq]
  constructor
  · rintro ⟨x, hx, z⟩
    refine pb_t ⟨x, hx, ?_⟩
    rw [← Nat.add_assoc]
    exact (bo_ne (ha _)).mp z
  · intro h
    refine Classical.byContradiction (fun n => ?_)
    have hno : ¬ ∃ x, x < 8 ∧ s (T + (dg_b v t + x * 8 ^ v)) = 1 := by
      rintro ⟨x, hx, z⟩
      refine n ⟨x, hx, ?_⟩
      show ¬ s (T + dg_b v t + x * 8 ^ v) = 0
      rw [Nat.add_assoc, z]
      decide
    rw [pb_f hno] at h
    exact absurd h (by decide)
theorem qe_8 {s : Nat → Int32} {T v t : Nat} (hv : v < 3) (ht : t < 512) : qu_g s T v 8 (dg_b v t) = qy_g s T v 0 t := by
  refine pb_c ?_
  have hq := cn_full (p := fun x => s (T + dg_b v t + x * 8 ^ v)) 8
  have hl := cn_le (fun x => s (T + dg_b v t + x * 8 ^ v)) 8
  have e : (¬ nI (cn_t (fun x => s (T + dg_b v t + x * 8 ^ v)) 8) < 8) ↔ 8 ≤ cn_t (fun x => s (T + dg_b v t + x * 8 ^ v)) 8 := by
    have e2 : nI (cn_t (fun x => s (T + dg_b v t + x * 8 ^ v)) 8) < 8 ↔ cn_t (fun x => s (T + dg_b v t + x * 8 ^ v)) 8 < 8 := nI_ltI (b := 8) (by omega) (by decide)
    rw [e2]
    omega
  rw [e, hq, pb_z]
  constructor
  · rintro h ⟨x, hx, z⟩
    rw [← Nat.add_assoc] at z
    exact h x hx z
  · intro h x hx z
    rw [Nat.add_assoc] at z
    exact h ⟨x, hx, z⟩
theorem qu_all {k d v : Nat} {a o : Nat → Int32} {need some : Int32} (hd : d < 5) (ha : bo_a a) (hv : v < 3) (hg : ∀ t, t < 512 → qu_g a (d * 512) v need (dg_b v t) = qy_g a (d * 512) v some t) :
    wpX_quantify (fun r u' => wpY_quantify (fun r' v' => r' = r ∧ i_Rel k u' v') (nI (d + 1), a, o) (nI v) some) (nI (d + 1), a) (nI v) need := by
  unfold wpX_quantify wpY_quantify
  dsimp only
  refine xs_va_t hv (br_f (by decide) (br_t (nI_le (a := 1) (by omega) (by omega)) (xs_top (xs_st hv (xl_quant hd hv ?_)))))
  rw [qu_end hv hg]
  exact ys_va_t hv (br_t rfl (br_f (nI_ne0 (by omega) (by omega)) (yl_keep hd ha (ys_at (d := d) (by omega) (nI_pred d) (yl_quant hd hv ⟨rfl, re_i (by omega) (fi_01 ha (fun t _ => pb_01 _))⟩)))))
theorem qu_ref {k d : Nat} {a o : Nat → Int32} {p need some : Int32} (hd : d ≤ 5) (ha : bo_a a) (h : (¬ ∃ v : Nat, v < 3 ∧ p = nI v) ∨ d = 0) :
    wpX_quantify (fun r u' => wpY_quantify (fun r' v' => r' = r ∧ i_Rel k u' v') (nI d, a, o) p some) (nI d, a) p need := by
  have hI := re_i (k := k) (o := o) hd ha
  unfold wpX_quantify wpY_quantify
  dsimp only
  by_cases c : ∃ v : Nat, v < 3 ∧ p = nI v
  · have hz : d = 0 := h.elim (fun z => absurd c z) id
    obtain ⟨v, hv, rfl⟩ := c
    subst hz
    exact xs_va_t hv (br_f (by decide) (br_f (by decide) (ys_va_t hv (br_t rfl (br_t nI_0 ⟨rfl, hI⟩)))))
  · exact xs_va_f c (br_t rfl (ys_va_f c (br_f (by decide) ⟨rfl, hI⟩)))
theorem i_vc_exists {k : Nat} {u : SX} {v : SY} (I : i_Rel k u v) (hk : k + 5 ≤ 2560) (v1 : Int32) : wpX_exists (fun r u' => wpY_exists (fun r' v' => r' = r ∧ i_Rel (k + 5) u' v') v v1) u v1 := by
  obtain ⟨d, a, o, hd, ha, rfl, rfl⟩ := I
  by_cases c : (∃ v : Nat, v < 3 ∧ v1 = nI v) ∧ ¬ d = 0
  · obtain ⟨⟨v, hv, rfl⟩, h0⟩ := c
    obtain ⟨e, rfl⟩ : ∃ e, d = e + 1 := ⟨d - 1, by omega⟩
    exact qu_all (by omega) ha hv (fun t ht => qe_1 ha hv ht)
  · exact qu_ref hd ha (by
      by_cases z : d = 0
      · exact Or.inr z
      · exact Or.inl (fun w => c ⟨w, z⟩))
theorem i_vc_forall {k : Nat} {u : SX} {v : SY} (I : i_Rel k u v) (hk : k + 5 ≤ 2560) (v1 : Int32) : wpX_forall (fun r u' => wpY_forall (fun r' v' => r' = r ∧ i_Rel (k + 5) u' v') v v1) u v1 := by
  obtain ⟨d, a, o, hd, ha, rfl, rfl⟩ := I
  by_cases c : (∃ v : Nat, v < 3 ∧ v1 = nI v) ∧ ¬ d = 0
  · obtain ⟨⟨v, hv, rfl⟩, h0⟩ := c
    obtain ⟨e, rfl⟩ : ∃ e, d = e + 1 := ⟨d - 1, by omega⟩
    exact qu_all (by omega) ha hv (fun t ht => qe_8 hv ht)
  · exact qu_ref hd ha (by
      by_cases z : d = 0
      · exact Or.inr z
      · exact Or.inl (fun w => c ⟨w, z⟩))
theorem i_vc_exchange {k : Nat} {u : SX} {v : SY} (I : i_Rel k u v) (hk : k + 5 ≤ 2560) (v1 : Int32) (v2 : Int32) : wpX_exchange (fun r u' => wpY_exchange (fun r' v' => r' = r ∧ i_Rel (k + 5) u' v') v v1 v2) u v1 v2 := by
  obtain ⟨d, a, o, hd, ha, rfl, rfl⟩ := I
  have hI := re_i (k := k + 5) (o := o) hd ha
  unfold wpX_exchange wpY_exchange
  dsimp only
  by_cases c1 : ∃ v : Nat, v < 3 ∧ v1 = nI v
  · obtain ⟨x, hx, rfl⟩ := c1
    refine xs_va_t hx (br_f (by decide) ?_)
    by_cases c2 : ∃ v : Nat, v < 3 ∧ v2 = nI v
    · obtain ⟨y, hy, rfl⟩ := c2
      refine xs_va_t hy (br_f (by decide) ?_)
      by_cases h0 : d = 0
      · subst h0
        exact br_f (by decide) (ys_va_t hx (br_t rfl (ys_va_t hy (br_t rfl (br_t nI_0 ⟨rfl, hI⟩)))))
      · obtain ⟨e, rfl⟩ : ∃ e, d = e + 1 := ⟨d - 1, by omega⟩
        have hd' : e < 5 := by omega
        refine br_t (nI_le (a := 1) (by omega) (by omega)) (xs_top (xl_exch hd' hx hy ha ?_))
        exact ys_va_t hx (br_t rfl (ys_va_t hy (br_t rfl (br_f (nI_ne0 (by omega) (by omega)) (yl_keep hd' ha (ys_at (d := e) (by omega) (nI_pred e) (yl_exch hd' hx hy ha ⟨rfl, re_i hd (fi_01 ha (fun t _ => ha _))⟩)))))))
    · exact xs_va_f c2 (br_t rfl (ys_va_t hx (br_t rfl (ys_va_f c2 (br_f (by decide) ⟨rfl, hI⟩)))))
  · exact xs_va_f c1 (br_t rfl (ys_va_f c1 (br_f (by decide) ⟨rfl, hI⟩)))
theorem i_vc_mirror {k : Nat} {u : SX} {v : SY} (I : i_Rel k u v) (hk : k + 5 ≤ 2560) (v1 : Int32) : wpX_mirror (fun r u' => wpY_mirror (fun r' v' => r' = r ∧ i_Rel (k + 5) u' v') v v1) u v1 := by
  obtain ⟨d, a, o, hd, ha, rfl, rfl⟩ := I
  have hI := re_i (k := k + 5) (o := o) hd ha
  unfold wpX_mirror wpY_mirror
  dsimp only
  by_cases c1 : ∃ v : Nat, v < 3 ∧ v1 = nI v
  · obtain ⟨x, hx, rfl⟩ := c1
    refine xs_va_t hx (br_f (by decide) ?_)
    by_cases h0 : d = 0
    · subst h0
      exact br_f (by decide) (ys_va_t hx (br_t rfl (br_t nI_0 ⟨rfl, hI⟩)))
    · obtain ⟨e, rfl⟩ : ∃ e, d = e + 1 := ⟨d - 1, by omega⟩
      have hd' : e < 5 := by omega
      refine br_t (nI_le (a := 1) (by omega) (by omega)) (xs_top (xl_mirr hd' hx ha ?_))
      exact ys_va_t hx (br_t rfl (br_f (nI_ne0 (by omega) (by omega)) (yl_keep hd' ha (ys_at (d := e) (by omega) (nI_pred e) (yl_mirr hd' hx ha ⟨rfl, re_i hd (fi_01 ha (fun t _ => ha _))⟩)))))
  · exact xs_va_f c1 (br_t rfl (ys_va_f c1 (br_f (by decide) ⟨rfl, hI⟩)))
theorem i_vc_copy {k : Nat} {u : SX} {v : SY} (I : i_Rel k u v) (hk : k + 5 ≤ 2560) (v1 : Int32) : wpX_copy (fun r u' => wpY_copy (fun r' v' => r' = r ∧ i_Rel (k + 5) u' v') v v1) u v1 := by
  obtain ⟨d, a, o, hd, ha, rfl, rfl⟩ := I
  have hI := re_i (k := k + 5) (o := o) hd ha
  unfold wpX_copy wpY_copy
  dsimp only
  by_cases c : ∃ j : Nat, j < d ∧ v1 = nI j
  · obtain ⟨p, hp, rfl⟩ := c
    refine xs_pl_t hd hp (br_f (by decide) ?_)
    by_cases h5 : d < 5
    · refine br_t (lt_5 h5) (nm_r (ti_x p) (nm_r (ti_x d) (xl_copy h5 hp ha ?_)))
      exact ys_pl_t hd hp (br_t rfl (br_f (ne_5 h5) (yl_copy h5 hp ha ⟨rfl, re_i (by omega) (fi_01 ha (fun t _ => ha _))⟩)))
    · have e := eq_5 hd h5
      exact br_f e.2 (ys_pl_t hd hp (br_t rfl (br_t e.1 ⟨rfl, hI⟩)))
  · exact xs_pl_f c (br_t rfl (ys_pl_f hd c (br_f (by decide) ⟨rfl, hI⟩)))
theorem i_vc_drop {k : Nat} {u : SX} {v : SY} (I : i_Rel k u v) (hk : k + 5 ≤ 2560) : wpX_drop (fun r u' => wpY_drop (fun r' v' => r' = r ∧ i_Rel (k + 5) u' v') v) u := by
  obtain ⟨d, a, o, hd, ha, rfl, rfl⟩ := I
  have hI := re_i (k := k + 5) (o := o) hd ha
  unfold wpX_drop wpY_drop
  dsimp only
  by_cases h0 : d = 0
  · subst h0
    exact br_f (by decide) (br_t nI_0 ⟨rfl, hI⟩)
  · obtain ⟨e, rfl⟩ : ∃ e, d = e + 1 := ⟨d - 1, by omega⟩
    exact br_t (nI_le (a := 1) (by omega) (by omega)) (nm_r (nI_pred e) (br_f (nI_ne0 (by omega) (by omega)) (nm_r (nI_pred e) ⟨rfl, re_i (by omega) ha⟩)))
theorem i_vc_holds {k : Nat} {u : SX} {v : SY} (I : i_Rel k u v) (hk : k + 5 ≤ 2560) (v1 : Int32) (v2 : Int32) : wpX_holds (fun r => wpY_holds (fun r' => r' = r ∧ i_Rel (k + 5) u v) v v1 v2) u v1 v2 := by
  obtain ⟨d, a, o, hd, ha, rfl, rfl⟩ := I
  have hI := re_i (k := k + 5) (o := o) hd ha
  unfold wpX_holds wpY_holds
  dsimp only
  by_cases c : ∃ j : Nat, j < d ∧ v1 = nI j
  · obtain ⟨p, hp, rfl⟩ := c
    refine xs_pl_t hd hp (br_f (by decide) ?_)
    refine br_c (fun hn => ys_pl_t hd hp (br_t rfl (br_t hn ⟨rfl, hI⟩))) (fun hn => ?_)
    obtain ⟨t, ht, rfl⟩ := nI_of hn
    by_cases h5 : t < 512
    · have hb : p * 512 + t < 2560 := by omega
      refine br_t (nI_lt (b := 512) h5 (by decide)) ?_
      rw [ti_x]
      have hY : nI t ≤ 511 := nI_le (b := 511) (by omega) (by decide)
      refine ⟨ce_in hb, br_c (fun hz => ?_) (fun hz => ?_)⟩
      · exact ys_pl_t hd hp (br_t rfl (br_f hn (br_t hY (ys_at (d := p) (by omega) rfl ⟨ce_in hb, br_t hz ⟨rfl, hI⟩⟩))))
      · exact ys_pl_t hd hp (br_t rfl (br_f hn (br_t hY (ys_at (d := p) (by omega) rfl ⟨ce_in hb, br_f hz ⟨rfl, hI⟩⟩))))
    · exact br_f (nI_nlt (b := 512) (by omega) ht) (ys_pl_t hd hp (br_t rfl (br_f hn (br_f (nI_ge (a := 511) (by omega) ht) ⟨rfl, hI⟩))))
  · exact xs_pl_f c (br_t rfl (ys_pl_f hd c (br_f (by decide) ⟨rfl, hI⟩)))
theorem i_vc_count {k : Nat} {u : SX} {v : SY} (I : i_Rel k u v) (hk : k + 5 ≤ 2560) (v1 : Int32) : wpX_count (fun r => wpY_count (fun r' => r' = r ∧ i_Rel (k + 5) u v) v v1) u v1 := by
  obtain ⟨d, a, o, hd, ha, rfl, rfl⟩ := I
  have hI := re_i (k := k + 5) (o := o) hd ha
  unfold wpX_count wpY_count
  dsimp only
  by_cases c : ∃ j : Nat, j < d ∧ v1 = nI j
  · obtain ⟨p, hp, rfl⟩ := c
    exact xs_pl_t hd hp (br_f (by decide) (xl_ht (by omega) rfl (ys_pl_t hd hp (br_t rfl (yl_ct (by omega) rfl ⟨rfl, hI⟩)))))
  · exact xs_pl_f c (br_t rfl (ys_pl_f hd c (br_f (by decide) ⟨rfl, hI⟩)))
theorem i_vc_next {k : Nat} {u : SX} {v : SY} (I : i_Rel k u v) (hk : k + 5 ≤ 2560) (v1 : Int32) (v2 : Int32) : wpX_next (fun r => wpY_next (fun r' => r' = r ∧ i_Rel (k + 5) u v) v v1 v2) u v1 v2 := by
  obtain ⟨d, a, o, hd, ha, rfl, rfl⟩ := I
  have hI := re_i (k := k + 5) (o := o) hd ha
  unfold wpX_next wpY_next
  dsimp only
  by_cases c : ∃ j : Nat, j < d ∧ v1 = nI j
  · obtain ⟨p, hp, rfl⟩ := c
    refine xs_pl_t hd hp (br_f (by decide) (nm_r (ti_x p) (xl_next (by omega) (fun t ht hh hm => ?_) (fun hn => ?_))))
    · refine ys_pl_t hd hp (br_t rfl (yl_next (by omega) (fun t' ht' hh' hm' => ⟨?_, hI⟩) (fun hn => absurd hh (hn t ht))))
      have e1 : ¬ t < t' := fun z => hm' t z hh
      have e2 : ¬ t' < t := fun z => hm t' z hh'
      exact congrArg nI (by omega)
    · exact ys_pl_t hd hp (br_t rfl (yl_next (by omega) (fun t' ht' hh' hm' => absurd hh' (hn t' ht')) (fun _ => ⟨rfl, hI⟩)))
  · exact xs_pl_f c (br_t rfl (ys_pl_f hd c (br_f (by decide) ⟨rfl, hI⟩)))
theorem i_vc_same {k : Nat} {u : SX} {v : SY} (I : i_Rel k u v) (hk : k + 5 ≤ 2560) (v1 : Int32) (v2 : Int32) : wpX_same (fun r => wpY_same (fun r' => r' = r ∧ i_Rel (k + 5) u v) v v1 v2) u v1 v2 := by
  obtain ⟨d, a, o, hd, ha, rfl, rfl⟩ := I
  have hI := re_i (k := k + 5) (o := o) hd ha
  unfold wpX_same wpY_same
  dsimp only
  by_cases c1 : ∃ j : Nat, j < d ∧ v1 = nI j
  · obtain ⟨p, hp, rfl⟩ := c1
    refine xs_pl_t hd hp (br_f (by decide) ?_)
    by_cases c2 : ∃ j : Nat, j < d ∧ v2 = nI j
    · obtain ⟨q, hq, rfl⟩ := c2
      refine xs_pl_t hd hq (br_f (by decide) (xl_sub (by omega) (by omega) (fun s1 => br_f (by decide) (xl_sub (by omega) (by omega) (fun s2 => br_f (by decide) ?_) (fun s2 => br_t rfl ?_))) (fun s1 => br_t rfl ?_)))
      · refine ys_pl_t hd hp (br_t rfl (ys_pl_t hd hq (br_t rfl (yl_same (by omega) (by omega) (fun _ => ⟨rfl, hI⟩) (fun ⟨t, ht, z⟩ => absurd ?_ z)))))
        cases ha (p * 512 + t) with
        | inl h0 =>
          cases ha (q * 512 + t) with
          | inl g0 => rw [h0, g0]
          | inr g1 => exact absurd h0 (s2 t ht (by rw [g1]; decide))
        | inr h1 => rw [h1, (bo_ne (ha _)).mp (s1 t ht (by rw [h1]; decide))]
      · obtain ⟨t, ht, z1, z2⟩ := s2
        exact ys_pl_t hd hp (br_t rfl (ys_pl_t hd hq (br_t rfl (yl_same (by omega) (by omega) (fun w => absurd ((w t ht).symm.trans z2) z1) (fun _ => ⟨rfl, hI⟩)))))
      · obtain ⟨t, ht, z1, z2⟩ := s1
        exact ys_pl_t hd hp (br_t rfl (ys_pl_t hd hq (br_t rfl (yl_same (by omega) (by omega) (fun w => absurd ((w t ht).trans z2) z1) (fun _ => ⟨rfl, hI⟩)))))
    · exact xs_pl_f c2 (br_t rfl (ys_pl_t hd hp (br_t rfl (ys_pl_f hd c2 (br_f (by decide) ⟨rfl, hI⟩)))))
  · exact xs_pl_f c1 (br_t rfl (ys_pl_f hd c1 (br_f (by decide) ⟨rfl, hI⟩)))
theorem i_vc_implied {k : Nat} {u : SX} {v : SY} (I : i_Rel k u v) (hk : k + 5 ≤ 2560) (v1 : Int32) (v2 : Int32) : wpX_implied (fun r => wpY_implied (fun r' => r' = r ∧ i_Rel (k + 5) u v) v v1 v2) u v1 v2 := by
  obtain ⟨d, a, o, hd, ha, rfl, rfl⟩ := I
  have hI := re_i (k := k + 5) (o := o) hd ha
  unfold wpX_implied wpY_implied
  dsimp only
  by_cases c1 : ∃ j : Nat, j < d ∧ v1 = nI j
  · obtain ⟨p, hp, rfl⟩ := c1
    refine xs_pl_t hd hp (br_f (by decide) ?_)
    by_cases c2 : ∃ j : Nat, j < d ∧ v2 = nI j
    · obtain ⟨q, hq, rfl⟩ := c2
      refine xs_pl_t hd hq (br_f (by decide) (xl_sub (by omega) (by omega) (fun s1 => br_f (by decide) ?_) (fun s1 => br_t rfl ?_)))
      · exact ys_pl_t hd hp (br_t rfl (ys_pl_t hd hq (br_t rfl (yl_impl (by omega) (by omega) (fun _ => ⟨rfl, hI⟩) (fun ⟨t, ht, z1, z2⟩ => absurd z2 (s1 t ht z1))))))
      · obtain ⟨t, ht, z1, z2⟩ := s1
        exact ys_pl_t hd hp (br_t rfl (ys_pl_t hd hq (br_t rfl (yl_impl (by omega) (by omega) (fun w => absurd z2 (w t ht z1)) (fun _ => ⟨rfl, hI⟩)))))
    · exact xs_pl_f c2 (br_t rfl (ys_pl_t hd hp (br_t rfl (ys_pl_f hd c2 (br_f (by decide) ⟨rfl, hI⟩)))))
  · exact xs_pl_f c1 (br_t rfl (ys_pl_f hd c1 (br_f (by decide) ⟨rfl, hI⟩)))
theorem dp_0 {s : Nat → Int32} {T v : Nat} (hv : v < 3) (h : ∀ t, t < 512 → s (T + t) = s (T + dg_b v t)) {n x : Nat} (hn : n < 512) (hz : dg_v v n = 0) (hx : x < 8) : s (T + n + x * 8 ^ v) = s (T + n) := by
  have hb := (dg_0 hv hn).mp hz
  have h1 := h _ (dg_l hv hn hx)
  rw [dg_lb hv hn hx, hb, ← Nat.add_assoc] at h1
  exact h1
theorem dp_1 {s : Nat → Int32} {T v : Nat} (ha : bo_a s) (hv : v < 3) (h : ∀ n, n < 512 → dg_v v n = 0 → (∀ x, x < 8 → s (T + n + x * 8 ^ v) = 0) ∨ (∀ x, x < 8 → ¬ s (T + n + x * 8 ^ v) = 0)) {t : Nat} (ht : t < 512) : s (T + t) = s (T + dg_b v t) := by
  have hb := dg_bl hv ht
  have h1 := h _ hb ((dg_0 hv hb).mpr (dg_bb hv ht))
  have hw := dg_lt hv ht
  have e : T + dg_b v t + dg_v v t * 8 ^ v = T + t := by rw [Nat.add_assoc, dg_eq hv ht]
  have e0 : T + dg_b v t + 0 * 8 ^ v = T + dg_b v t := by rw [Nat.zero_mul, Nat.add_zero]
  cases h1 with
  | inl h1 =>
    have z1 := h1 _ hw
    have z2 := h1 0 (by decide)
    rw [e] at z1
    rw [e0] at z2
    rw [z1, z2]
  | inr h1 =>
    have z1 := h1 _ hw
    have z2 := h1 0 (by decide)
    rw [e] at z1
    rw [e0] at z2
    rw [(bo_ne (ha _)).mp z1, (bo_ne (ha _)).mp z2]
theorem i_vc_depends {k : Nat} {u : SX} {v : SY} (I : i_Rel k u v) (hk : k + 5 ≤ 2560) (v1 : Int32) (v2 : Int32) : wpX_depends (fun r => wpY_depends (fun r' => r' = r ∧ i_Rel (k + 5) u v) v v1 v2) u v1 v2 := by
  obtain ⟨d, a, o, hd, ha, rfl, rfl⟩ := I
  have hI := re_i (k := k + 5) (o := o) hd ha
  unfold wpX_depends wpY_depends
  dsimp only
  by_cases c1 : ∃ j : Nat, j < d ∧ v1 = nI j
  · obtain ⟨p, hp, rfl⟩ := c1
    refine xs_pl_t hd hp (br_f (by decide) ?_)
    by_cases c2 : ∃ v : Nat, v < 3 ∧ v2 = nI v
    · obtain ⟨x, hx, rfl⟩ := c2
      refine xs_va_t hx (br_f (by decide) (nm_r (ti_x p) (xs_st hx (xl_dep (by omega) hx (fun h1 => ?_) (fun h0 => ?_)))))
      · obtain ⟨n, hn, hz, ⟨y, hy, y1⟩, ⟨w, hw, w0⟩⟩ := h1
        exact ys_pl_t hd hp (br_t rfl (ys_va_t hx (br_t rfl (yl_dep (by omega) hx (fun _ => ⟨rfl, hI⟩) (fun q => absurd (((dp_0 hx q hn hz hy).trans (dp_0 hx q hn hz hw).symm).trans w0) y1)))))
      · exact ys_pl_t hd hp (br_t rfl (ys_va_t hx (br_t rfl (yl_dep (by omega) hx (fun ⟨t, ht, z⟩ => absurd (dp_1 ha hx h0 ht) z) (fun _ => ⟨rfl, hI⟩)))))
    · exact xs_va_f c2 (br_t rfl (ys_pl_t hd hp (br_t rfl (ys_va_f c2 (br_f (by decide) ⟨rfl, hI⟩)))))
  · exact xs_pl_f c1 (br_t rfl (ys_pl_f hd c1 (br_f (by decide) ⟨rfl, hI⟩)))
theorem i_vc_values {k : Nat} {u : SX} {v : SY} (I : i_Rel k u v) (hk : k + 5 ≤ 2560) (v1 : Int32) (v2 : Int32) : wpX_values (fun r => wpY_values (fun r' => r' = r ∧ i_Rel (k + 5) u v) v v1 v2) u v1 v2 := by
  obtain ⟨d, a, o, hd, ha, rfl, rfl⟩ := I
  have hI := re_i (k := k + 5) (o := o) hd ha
  unfold wpX_values wpY_values
  dsimp only
  by_cases c1 : ∃ j : Nat, j < d ∧ v1 = nI j
  · obtain ⟨p, hp, rfl⟩ := c1
    refine xs_pl_t hd hp (br_f (by decide) ?_)
    by_cases c2 : ∃ v : Nat, v < 3 ∧ v2 = nI v
    · obtain ⟨x, hx, rfl⟩ := c2
      exact xs_va_t hx (br_f (by decide) (xl_vals (by omega) hx (ys_pl_t hd hp (br_t rfl (ys_va_t hx (br_t rfl (yl_vals (by omega) hx ⟨rfl, hI⟩)))))))
    · exact xs_va_f c2 (br_t rfl (ys_pl_t hd hp (br_t rfl (ys_va_f c2 (br_f (by decide) ⟨rfl, hI⟩)))))
  · exact xs_pl_f c1 (br_t rfl (ys_pl_f hd c1 (br_f (by decide) ⟨rfl, hI⟩)))
