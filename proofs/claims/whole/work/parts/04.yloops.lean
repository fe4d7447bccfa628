/-! Y's loops, each against its pure picture -/
theorem yl_atMost {post : Int32 → SY → Prop} {a b c k : Int32} {d : Nat} {s o : Nat → Int32} (hd : d < 5)
    (h : post (nI (d + 1)) (nI (d + 1), fi_l s (d * 512) 512 (fun t => pb_of (¬ k < ws_i a b c (nI t))), o)) :
    ∃ n, wY_atMost_67 post a b c k (nI (d * 512)) (nI d) n 0 s o := by
  refine loop_0 (fun n i s' => wY_atMost_67 post a b c k (nI (d * 512)) (nI d) n (nI i) s' o) (fun i s' => s' = fi_l s (d * 512) i (fun t => pb_of (¬ k < ws_i a b c (nI t)))) 512 s fi_0.symm ?_ ?_
  · intro n s' hs
    subst hs
    exact br_t le_512 (nm_r (nI_1 d) h)
  · intro n i s' hi hs ih
    refine br_f (lt_512 hi) (ys_ws ?_)
    refine br_c (fun hc => ⟨ce_in (by omega), ?_⟩) (fun hc => ⟨ce_in (by omega), ?_⟩)
    · exact nm_r (st_s hs (by omega) (ng_0 rfl (fun z => z hc))) (nm_r (nI_1 i) (ih _ rfl))
    · exact nm_r (st_s hs (by omega) (ng_1 rfl hc)) (nm_r (nI_1 i) (ih _ rfl))
theorem yl_congruent {post : Int32 → SY → Prop} {a b c m r : Int32} {d : Nat} {s o : Nat → Int32} (hd : d < 5) (hm : ¬ m = 0)
    (h : post (nI (d + 1)) (nI (d + 1), fi_l s (d * 512) 512 (fun t => pb_of ((ws_i a b c (nI t) - r) - (ws_i a b c (nI t) - r) / m * m = 0)), o)) :
    ∃ n, wY_congruent_92 post m r a b c (nI (d * 512)) (nI d) n 0 s o := by
  refine loop_0 (fun n i s' => wY_congruent_92 post m r a b c (nI (d * 512)) (nI d) n (nI i) s' o) (fun i s' => s' = fi_l s (d * 512) i (fun t => pb_of ((ws_i a b c (nI t) - r) - (ws_i a b c (nI t) - r) / m * m = 0))) 512 s fi_0.symm ?_ ?_
  · intro n s' hs
    subst hs
    exact br_t le_512 (nm_r (nI_1 d) h)
  · intro n i s' hi hs ih
    refine br_f (lt_512 hi) (ys_ws ?_)
    refine ⟨hm, br_c (fun hc => ⟨ce_in (by omega), ?_⟩) (fun hc => ⟨ce_in (by omega), ?_⟩)⟩
    · exact nm_r (st_s hs (by omega) (ng_1 rfl hc)) (nm_r (nI_1 i) (ih _ rfl))
    · exact nm_r (st_s hs (by omega) (ng_0 rfl hc)) (nm_r (nI_1 i) (ih _ rfl))
theorem yl_negate {post : Int32 → SY → Prop} {d : Nat} {s o : Nat → Int32} (hd : d < 5)
    (h : post (nI (d + 1)) (nI (d + 1), fi_l s (d * 512) 512 (fun t => pb_of (s (d * 512 + t) = 0)), o)) : ∃ n, wY_connect_47 post (nI (d * 512)) (nI (d + 1)) n 0 s o := by
  refine loop_0 (fun n i s' => wY_connect_47 post (nI (d * 512)) (nI (d + 1)) n (nI i) s' o) (fun i s' => s' = fi_l s (d * 512) i (fun t => pb_of (s (d * 512 + t) = 0))) 512 s fi_0.symm ?_ ?_
  · intro n s' hs
    subst hs
    exact br_t le_512 h
  · intro n i s' hi hs ih
    have hr : s' (nI (d * 512) + nI i).toNatClampNeg = s (d * 512 + i) := rd_f hs (by omega)
    refine br_f (lt_512 hi) ⟨ce_in (by omega), br_c (fun hc => ⟨ce_in (by omega), ?_⟩) (fun hc => ⟨ce_in (by omega), ?_⟩)⟩
    · exact nm_r (st_s hs (by omega) (ng_1 rfl (hr.symm.trans hc))) (nm_r (nI_1 i) (ih _ rfl))
    · exact nm_r (st_s hs (by omega) (ng_0 rfl (fun z => hc (hr.trans z)))) (nm_r (nI_1 i) (ih _ rfl))
theorem yl_join {post : Int32 → SY → Prop} {d k : Nat} {s o : Nat → Int32} (hd : d < 4) (h1 : 1 ≤ k) (h4 : k ≤ 4)
    (h : post (nI (d + 1)) (nI (d + 1), fi_l s (d * 512) 512 (fun t => pb_of (jo_p k (s (d * 512 + t)) (s ((d + 1) * 512 + t)))), o)) :
    ∃ n, wY_connect_103 post (nI k) (nI ((d + 1) * 512)) (nI (d * 512)) (nI (d + 2)) n 0 s o := by
  refine loop_0 (fun n i s' => wY_connect_103 post (nI k) (nI ((d + 1) * 512)) (nI (d * 512)) (nI (d + 2)) n (nI i) s' o) (fun i s' => s' = fi_l s (d * 512) i (fun t => pb_of (jo_p k (s (d * 512 + t)) (s ((d + 1) * 512 + t))))) 512 s fi_0.symm ?_ ?_
  · intro n s' hs
    subst hs
    exact br_t le_512 (nm_r (nI_pred (d + 1)) h)
  · intro n i s' hi hs ih
    have hr : s' (nI (d * 512) + nI i).toNatClampNeg = s (d * 512 + i) := rd_f hs (by omega)
    have hr2 : s' (nI ((d + 1) * 512) + nI i).toNatClampNeg = s ((d + 1) * 512 + i) := rd_o hs (by omega) (by omega)
    refine br_f (lt_512 hi) ⟨ce_in (by omega), ce_in (by omega), ?_⟩
    refine ys_jo h1 h4 ⟨ce_in (by omega), ?_⟩
    exact nm_r (st_s hs (by omega) (by rw [hr, hr2]; exact bo_v (pb_01 _))) (nm_r (nI_1 i) (ih _ rfl))
theorem yl_copy {post : Int32 → SY → Prop} {d p : Nat} {s o : Nat → Int32} (hd : d < 5) (hp : p < d) (ha : bo_a s)
    (h : post (nI (d + 1)) (nI (d + 1), fi_l s (d * 512) 512 (fun t => s (p * 512 + t)), o)) :
    ∃ n, wY_copy_23 post (nI p) (nI d) n 0 s o := by
  refine loop_0 (fun n i s' => wY_copy_23 post (nI p) (nI d) n (nI i) s' o) (fun i s' => s' = fi_l s (d * 512) i (fun t => s (p * 512 + t))) 512 s fi_0.symm ?_ ?_
  · intro n s' hs
    subst hs
    exact br_t le_512 (nm_r (nI_1 d) h)
  · intro n i s' hi hs ih
    have hr : s' (nI (p * 512) + nI i).toNatClampNeg = s (p * 512 + i) := rd_o hs (by omega) (by omega)
    refine br_f (lt_512 hi) (ys_at (d := d) (by omega) rfl (ys_at (d := p) (by omega) rfl ⟨ce_in (by omega), ce_in (by omega), ?_⟩))
    exact nm_r (st_s hs (by omega) (by rw [hr]; exact bo_v (ha _))) (nm_r (nI_1 i) (ih _ rfl))
theorem yl_keep {post : SY → Prop} {d : Nat} {s o : Nat → Int32} (hd : d < 5) (ha : bo_a s)
    (h : post (nI (d + 1), s, fi_l o 0 512 (fun t => s (d * 512 + t)))) : wpY_keepTop post (nI (d + 1), s, o) := by
  unfold wpY_keepTop
  dsimp only
  refine ys_at (d := d) (by omega) (nI_pred d) ?_
  refine loop_0 (fun n i o' => wY_keepTop_13 post (nI (d * 512)) (nI (d + 1)) n (nI i) s o') (fun i o' => o' = fi_l o 0 i (fun t => s (d * 512 + t))) 512 o fi_0.symm ?_ ?_
  · intro n s' hs
    subst hs
    exact br_t le_512 h
  · intro n i o' hi hs ih
    refine br_f (lt_512 hi) ⟨ce_in (by omega), vp_in_nI hi (by decide), nm_e (nm_r (nI_1 i) (ih _ ?_))⟩
    rw [ce_cl (by omega), nI_clamp (by omega), bo_v (ha _), hs]
    have e := fi_s (a := o) (T := 0) (n := i) (g := fun t => s (d * 512 + t)) (x := s (d * 512 + i)) rfl
    rw [Nat.zero_add] at e
    exact e
theorem yl_ct {post : Int32 → Prop} {p : Nat} {D P : Int32} {s o : Nat → Int32} (hp : p < 5) (e : P = nI p)
    (h : post (nI (cn_t (fun t => s (p * 512 + t)) 512))) : wpY_countAt post (D, s, o) P := by
  subst e
  refine loop_0 (fun n i c => wY_countAt_4 post (nI p) D s o n c (nI i)) (fun i c => c = nI (cn_t (fun t => s (p * 512 + t)) i)) 512 0 rfl ?_ ?_
  · intro n c hc
    subst hc
    exact br_t le_512 h
  · intro n i c hi hc ih
    have hb : p * 512 + i < 2560 := by omega
    refine br_f (lt_512 hi) (ys_at (d := p) (by omega) rfl ⟨ce_in hb, br_c (fun hz => ?_) (fun hz => ?_)⟩)
    · rw [ce_cl hb] at hz
      refine nm_r (nI_1 i) (ih _ ?_)
      rw [hc, cn_z (p := fun t => s (p * 512 + t)) hz]
    · rw [ce_cl hb] at hz
      refine nm_e (nm_r (nI_1 i) (ih _ ?_))
      rw [hc, cn_o (p := fun t => s (p * 512 + t)) hz, nI_1]
/-- Y's answer at one number: some x whose cell is like 'some' -/
noncomputable def qy_g (s : Nat → Int32) (T v : Nat) (some : Int32) (t : Nat) : Int32 := pb_of (pb_of (∃ x, x < 8 ∧ s (T + (dg_b v t + x * 8 ^ v)) = some) = some)
theorem yl_found {post : Int32 → SY → Prop} {J : Int32 → (Nat → Int32) → (Nat → Int32) → Prop} {d v t : Nat} {some D : Int32} {s s' o : Nat → Int32} (hd : d < 5) (hv : v < 3) (ht : t < 512)
    (h : J (nI (t + 1)) (upd s' (d * 512 + t) (qy_g s (d * 512) v some t)) (fi_l o 0 512 (fun t => s (d * 512 + t)))) :
    ∃ n, wY_quantify_52 post J (nI v) some (nI (d * 512)) (nI t) D s' (fi_l o 0 512 (fun t => s (d * 512 + t))) n 0 0 := by
  refine loop_0 (fun n i c => wY_quantify_52 post J (nI v) some (nI (d * 512)) (nI t) D s' (fi_l o 0 512 (fun t => s (d * 512 + t))) n c (nI i)) (fun i c => c = pb_of (∃ x, x < i ∧ s (d * 512 + (dg_b v t + x * 8 ^ v)) = some)) 8 0 (pb_f (fun ⟨x, hx, _⟩ => by omega)).symm ?_ ?_
  · intro n c hc
    refine br_t le_8 (br_c (fun hz => ⟨ce_in (by omega), nm_r (e' := upd s' (d * 512 + t) (qy_g s (d * 512) v some t)) ?_ (nm_r (nI_1 t) h)⟩) (fun hz => ⟨ce_in (by omega), nm_r (e' := upd s' (d * 512 + t) (qy_g s (d * 512) v some t)) ?_ (nm_r (nI_1 t) h)⟩))
    · rw [ce_cl (by omega)]
      rw [hc] at hz
      exact congrArg (upd s' (d * 512 + t)) (ng_1 rfl hz)
    · rw [ce_cl (by omega)]
      rw [hc] at hz
      exact congrArg (upd s' (d * 512 + t)) (ng_0 rfl hz)
  · intro n i c hi hc ih
    have hl := dg_l hv ht hi
    have hr : fi_l o 0 512 (fun t => s (d * 512 + t)) (nI (dg_b v t + i * 8 ^ v)).toNatClampNeg = s (d * 512 + (dg_b v t + i * 8 ^ v)) := by
      rw [nI_clamp (by omega)]
      have e := fi_in (a := o) (T := 0) (n := 512) (g := fun t => s (d * 512 + t)) hl
      rw [Nat.zero_add] at e
      exact e
    refine br_f (lt_8 hi) (ys_with hv ht hi ⟨vp_in_nI hl (by decide), br_c (fun hz => nm_r (nI_1 i) (ih _ ?_)) (fun hz => nm_r (nI_1 i) (ih _ ?_))⟩)
    · rw [hr] at hz
      exact (pb_t ⟨i, Nat.lt_succ_self i, hz⟩).symm
    · rw [hr] at hz
      rw [hc]
      refine pb_c ⟨fun ⟨x, hx, z⟩ => ⟨x, by omega, z⟩, fun ⟨x, hx, z⟩ => ⟨x, ?_, z⟩⟩
      have : x ≠ i := fun w => hz (w ▸ z)
      omega
theorem yl_quant {post : Int32 → SY → Prop} {d v : Nat} {some : Int32} {s o : Nat → Int32} (hd : d < 5) (hv : v < 3)
    (h : post (nI (cn_t (fun t => fi_l s (d * 512) 512 (qy_g s (d * 512) v some) (d * 512 + t)) 512)) (nI (d + 1), fi_l s (d * 512) 512 (qy_g s (d * 512) v some), fi_l o 0 512 (fun t => s (d * 512 + t)))) :
    ∃ n, wY_quantify_38 post (nI v) some (nI (d * 512)) (nI (d + 1)) n 0 s (fi_l o 0 512 (fun t => s (d * 512 + t))) := by
  refine loop_0 (fun n i s' => wY_quantify_38 post (nI v) some (nI (d * 512)) (nI (d + 1)) n (nI i) s' (fi_l o 0 512 (fun t => s (d * 512 + t)))) (fun i s' => s' = fi_l s (d * 512) i (qy_g s (d * 512) v some)) 512 s fi_0.symm ?_ ?_
  · intro n s' hs
    subst hs
    exact br_t le_512 (yl_ct hd (nI_pred d) h)
  · intro n i s' hi hs ih
    refine br_f (lt_512 hi) (yl_found hd hv hi (ih _ ?_))
    rw [hs]
    exact fi_s rfl
theorem yl_exch {post : Int32 → SY → Prop} {d u v : Nat} {s o : Nat → Int32} (hd : d < 5) (hu : u < 3) (hv : v < 3) (ha : bo_a s)
    (h : post 0 (nI (d + 1), fi_l s (d * 512) 512 (fun t => s (d * 512 + dg_ex u v t)), fi_l o 0 512 (fun t => s (d * 512 + t)))) :
    ∃ n, wY_exchange_46 post (nI u) (nI v) (nI (d * 512)) (nI (d + 1)) n 0 s (fi_l o 0 512 (fun t => s (d * 512 + t))) := by
  refine loop_0 (fun n i s' => wY_exchange_46 post (nI u) (nI v) (nI (d * 512)) (nI (d + 1)) n (nI i) s' (fi_l o 0 512 (fun t => s (d * 512 + t)))) (fun i s' => s' = fi_l s (d * 512) i (fun t => s (d * 512 + dg_ex u v t))) 512 s fi_0.symm ?_ ?_
  · intro n s' hs
    subst hs
    exact br_t le_512 h
  · intro n i s' hi hs ih
    have hl : dg_ex u v i < 512 := (dg_exf u hu v hv i hi).1
    have h1 : dg_b u i + dg_v v i * 8 ^ u < 512 := dg_l hu hi (dg_lt hv hi)
    have hr : fi_l o 0 512 (fun t => s (d * 512 + t)) (nI (dg_ex u v i)).toNatClampNeg = s (d * 512 + dg_ex u v i) := by
      rw [nI_clamp (by omega)]
      have e := fi_in (a := o) (T := 0) (n := 512) (g := fun t => s (d * 512 + t)) hl
      rw [Nat.zero_add] at e
      exact e
    refine br_f (lt_512 hi) (ys_val hu hi (ys_val hv hi (ys_with hu hi (dg_lt hv hi) (ys_with hv h1 (dg_lt hu hi) ?_))))
    refine ⟨vp_in_nI hl (by decide), ce_in (by omega), ?_⟩
    exact nm_r (st_s hs (by omega) ((congrArg (vp_nar .boolean) hr).trans (bo_v (ha _)))) (nm_r (nI_1 i) (ih _ rfl))
theorem yl_mirr {post : Int32 → SY → Prop} {d v : Nat} {s o : Nat → Int32} (hd : d < 5) (hv : v < 3) (ha : bo_a s)
    (h : post 0 (nI (d + 1), fi_l s (d * 512) 512 (fun t => s (d * 512 + dg_mi v t)), fi_l o 0 512 (fun t => s (d * 512 + t)))) :
    ∃ n, wY_mirror_37 post (nI v) (nI (d * 512)) (nI (d + 1)) n 0 s (fi_l o 0 512 (fun t => s (d * 512 + t))) := by
  refine loop_0 (fun n i s' => wY_mirror_37 post (nI v) (nI (d * 512)) (nI (d + 1)) n (nI i) s' (fi_l o 0 512 (fun t => s (d * 512 + t)))) (fun i s' => s' = fi_l s (d * 512) i (fun t => s (d * 512 + dg_mi v t))) 512 s fi_0.symm ?_ ?_
  · intro n s' hs
    subst hs
    exact br_t le_512 h
  · intro n i s' hi hs ih
    have hw := dg_lt hv hi
    have hl : dg_mi v i < 512 := (dg_mif v hv i hi).1
    have hr : fi_l o 0 512 (fun t => s (d * 512 + t)) (nI (dg_mi v i)).toNatClampNeg = s (d * 512 + dg_mi v i) := by
      rw [nI_clamp (by omega)]
      have e := fi_in (a := o) (T := 0) (n := 512) (g := fun t => s (d * 512 + t)) hl
      rw [Nat.zero_add] at e
      exact e
    have e7 : 7 - nI (dg_v v i) = nI (7 - dg_v v i) := pk_sub (a := 7) (by omega)
    refine br_f (lt_512 hi) (ys_val hv hi ?_)
    rw [e7]
    refine ys_with hv hi (by omega) ?_
    refine ⟨vp_in_nI hl (by decide), ce_in (by omega), ?_⟩
    exact nm_r (st_s hs (by omega) ((congrArg (vp_nar .boolean) hr).trans (bo_v (ha _)))) (nm_r (nI_1 i) (ih _ rfl))
theorem yl_next {post : Int32 → Prop} {after D : Int32} {p : Nat} {s o : Nat → Int32} (hp : p < 5)
    (h1 : ∀ t, t < 512 → (¬ nI t ≤ after ∧ ¬ s (p * 512 + t) = 0) → (∀ t', t' < t → ¬ (¬ nI t' ≤ after ∧ ¬ s (p * 512 + t') = 0)) → post (nI t))
    (h0 : (∀ t, t < 512 → ¬ (¬ nI t ≤ after ∧ ¬ s (p * 512 + t) = 0)) → post (-2)) :
    ∃ n, wY_next_12 post (nI p) after D s o n 0 := by
  refine loop_0 (fun n i (_ : Unit) => wY_next_12 post (nI p) after D s o n (nI i)) (fun i _ => ∀ t, t < i → ¬ (¬ nI t ≤ after ∧ ¬ s (p * 512 + t) = 0)) 512 () lt_0 ?_ ?_
  · intro n _ hs
    exact br_t le_512 (h0 hs)
  · intro n i _ hi hs ih
    have hb : p * 512 + i < 2560 := by omega
    refine br_f (lt_512 hi) (br_c (fun hc => nm_r (nI_1 i) (ih () (lt_s hs (fun z => z.1 hc)))) (fun hc => ys_at (d := p) (by omega) rfl ⟨ce_in hb, br_c (fun hz => nm_r (nI_1 i) (ih () (lt_s hs (fun z => z.2 ?_)))) (fun hz => h1 i hi ⟨hc, ?_⟩ hs)⟩))
    · rw [ce_cl hb] at hz; exact hz
    · rw [ce_cl hb] at hz; exact hz
theorem yl_same {post : Int32 → Prop} {D : Int32} {p q : Nat} {s o : Nat → Int32} (hp : p < 5) (hq : q < 5)
    (h1 : (∀ t, t < 512 → s (p * 512 + t) = s (q * 512 + t)) → post 1)
    (h0 : (∃ t, t < 512 ∧ ¬ s (p * 512 + t) = s (q * 512 + t)) → post 0) : ∃ n, wY_same_20 post (nI p) (nI q) D s o n 0 := by
  refine loop_0 (fun n i (_ : Unit) => wY_same_20 post (nI p) (nI q) D s o n (nI i)) (fun i _ => ∀ t, t < i → s (p * 512 + t) = s (q * 512 + t)) 512 () lt_0 ?_ ?_
  · intro n _ hs
    exact br_t le_512 (h1 hs)
  · intro n i _ hi hs ih
    have hb : p * 512 + i < 2560 := by omega
    have hb2 : q * 512 + i < 2560 := by omega
    refine br_f (lt_512 hi) (ys_at (d := p) (by omega) rfl ⟨ce_in hb, ys_at (d := q) (by omega) rfl ⟨ce_in hb2, br_c (fun hc => ?_) (fun hc => ?_)⟩⟩)
    · rw [ce_cl hb, ce_cl hb2] at hc
      exact nm_r (nI_1 i) (ih () (lt_s hs hc))
    · rw [ce_cl hb, ce_cl hb2] at hc
      exact h0 ⟨i, hi, hc⟩
theorem yl_impl {post : Int32 → Prop} {D : Int32} {p q : Nat} {s o : Nat → Int32} (hp : p < 5) (hq : q < 5)
    (h1 : (∀ t, t < 512 → ¬ s (p * 512 + t) = 0 → ¬ s (q * 512 + t) = 0) → post 1)
    (h0 : (∃ t, t < 512 ∧ ¬ s (p * 512 + t) = 0 ∧ s (q * 512 + t) = 0) → post 0) : ∃ n, wY_implied_20 post (nI p) (nI q) D s o n 0 := by
  refine loop_0 (fun n i (_ : Unit) => wY_implied_20 post (nI p) (nI q) D s o n (nI i)) (fun i _ => ∀ t, t < i → ¬ s (p * 512 + t) = 0 → ¬ s (q * 512 + t) = 0) 512 () lt_0 ?_ ?_
  · intro n _ hs
    exact br_t le_512 (h1 hs)
  · intro n i _ hi hs ih
    have hb : p * 512 + i < 2560 := by omega
    have hb2 : q * 512 + i < 2560 := by omega
    refine br_f (lt_512 hi) (ys_at (d := p) (by omega) rfl ⟨ce_in hb, br_c (fun hc => ?_) (fun hc => ys_at (d := q) (by omega) rfl ⟨ce_in hb2, br_c (fun hz => ?_) (fun hz => ?_)⟩)⟩)
    · rw [ce_cl hb] at hc
      exact nm_r (nI_1 i) (ih () (lt_s hs (fun z => absurd hc z)))
    · rw [ce_cl hb] at hc
      rw [ce_cl hb2] at hz
      exact h0 ⟨i, hi, hc, hz⟩
    · rw [ce_cl hb2] at hz
      exact nm_r (nI_1 i) (ih () (lt_s hs (fun _ => hz)))
theorem yl_dep {post : Int32 → Prop} {D : Int32} {p v : Nat} {s o : Nat → Int32} (hp : p < 5) (hv : v < 3)
    (h1 : (∃ t, t < 512 ∧ ¬ s (p * 512 + t) = s (p * 512 + dg_b v t)) → post 1)
    (h0 : (∀ t, t < 512 → s (p * 512 + t) = s (p * 512 + dg_b v t)) → post 0) : ∃ n, wY_depends_23 post (nI p) (nI v) D s o n 0 := by
  refine loop_0 (fun n i (_ : Unit) => wY_depends_23 post (nI p) (nI v) D s o n (nI i)) (fun i _ => ∀ t, t < i → s (p * 512 + t) = s (p * 512 + dg_b v t)) 512 () lt_0 ?_ ?_
  · intro n _ hs
    exact br_t le_512 (h0 hs)
  · intro n i _ hi hs ih
    have hl := dg_bl hv hi
    have hb : p * 512 + i < 2560 := by omega
    have hb2 : p * 512 + dg_b v i < 2560 := by omega
    refine br_f (lt_512 hi) (ys_with (x := 0) hv hi (by decide) ?_)
    rw [Nat.zero_mul, Nat.add_zero]
    refine ys_at (d := p) (by omega) rfl ⟨ce_in hb, ys_at (d := p) (by omega) rfl ⟨ce_in hb2, br_c (fun hc => ?_) (fun hc => ?_)⟩⟩
    · rw [ce_cl hb, ce_cl hb2] at hc
      exact nm_r (nI_1 i) (ih () (lt_s hs hc))
    · rw [ce_cl hb, ce_cl hb2] at hc
      exact h1 ⟨i, hi, hc⟩
theorem yl_bits {post : Int32 → Prop} {D : Int32} {m : Nat} {s o : Nat → Int32} (hm : m < 256)
    (h : post (nI (cn_t (fun x => nI (if m.testBit x = true then 1 else 0)) 8))) : ∃ n, wY_values_74 post (nI m) D s o n 0 0 := by
  refine loop_0 (fun n i c => wY_values_74 post (nI m) D s o n c (nI i)) (fun i c => c = nI (cn_t (fun x => nI (if m.testBit x = true then 1 else 0)) i)) 8 0 rfl ?_ ?_
  · intro n c hc
    subst hc
    exact br_t le_8 h
  · intro n i c hi hc ih
    refine br_f (lt_8 hi) (nm_e (nm_r (nI_1 i) (ih _ ?_)))
    rw [dn_bit m hm i hi, hc, nI_add]
    by_cases hb : m.testBit i = true
    · rw [cn_o (p := fun x => nI (if m.testBit x = true then 1 else 0)) (n := i) (by show ¬ nI (if m.testBit i = true then 1 else 0) = 0; rw [if_pos hb]; decide), if_pos hb]
    · rw [cn_z (p := fun x => nI (if m.testBit x = true then 1 else 0)) (n := i) (by show nI (if m.testBit i = true then 1 else 0) = 0; rw [if_neg hb]; exact nI_0), if_neg hb, Nat.add_zero]
theorem yl_vals {post : Int32 → Prop} {D : Int32} {p v : Nat} {s o : Nat → Int32} (hp : p < 5) (hv : v < 3)
    (h : post (nI (cn_t (fun x => pb_of (∃ t, t < 512 ∧ dg_v v t = x ∧ ¬ s (p * 512 + t) = 0)) 8))) : ∃ n, wY_values_26 post (nI p) (nI v) D s o n 0 0 := by
  refine loop_0 (fun n i c => wY_values_26 post (nI p) (nI v) D s o n c (nI i)) (fun i c => ∃ m, m < 256 ∧ c = nI m ∧ ∀ x, x < 8 → (m.testBit x = true ↔ ∃ t, t < i ∧ dg_v v t = x ∧ ¬ s (p * 512 + t) = 0)) 512 0 ⟨0, by decide, rfl, ?_⟩ ?_ ?_
  · intro x hx
    rw [Nat.zero_testBit]
    exact ⟨fun z => absurd z (by decide), fun ⟨t, ht, _⟩ => absurd ht (Nat.not_lt_zero t)⟩
  · intro n c hc
    obtain ⟨m, hm, e, hb⟩ := hc
    subst e
    refine br_t le_512 (yl_bits hm ?_)
    rw [cn_i (q := fun x => pb_of (∃ t, t < 512 ∧ dg_v v t = x ∧ ¬ s (p * 512 + t) = 0)) 8 (fun x hx => ?_)]
    · exact h
    · show nI (if m.testBit x = true then 1 else 0) = 0 ↔ pb_of _ = 0
      rw [pb_z, ← hb x hx]
      by_cases w : m.testBit x = true
      · rw [if_pos w]
        exact ⟨fun z => absurd z (by decide), fun z => absurd w z⟩
      · rw [if_neg w]
        exact ⟨fun _ => w, fun _ => nI_0⟩
  · intro n i c hi hc ih
    obtain ⟨m, hm, e, hb⟩ := hc
    subst e
    have hbb : p * 512 + i < 2560 := by omega
    have hw := dg_lt hv hi
    refine br_f (lt_512 hi) (ys_at (d := p) (by omega) rfl ⟨ce_in hbb, br_c (fun hz => ?_) (fun hz => ?_)⟩)
    · rw [ce_cl hbb] at hz
      refine nm_r (nI_1 i) (ih _ ⟨m, hm, rfl, fun x hx => ?_⟩)
      rw [hb x hx]
      refine ⟨fun ⟨t, ht, z⟩ => ⟨t, by omega, z⟩, fun ⟨t, ht, z⟩ => ⟨t, ?_, z⟩⟩
      have : t ≠ i := fun y => z.2 (y ▸ hz)
      omega
    · rw [ce_cl hbb] at hz
      have ho := dn_or m hm (dg_v v i) hw
      refine ys_val hv hi (nm_r ho.1 (nm_r (nI_1 i) (ih _ ⟨_, ho.2, rfl, fun x hx => ?_⟩)))
      rw [Nat.testBit_or, Nat.testBit_two_pow, Bool.or_eq_true, hb x hx, decide_eq_true_iff]
      constructor
      · rintro (⟨t, ht, z⟩ | y)
        · exact ⟨t, by omega, z⟩
        · exact ⟨i, Nat.lt_succ_self i, y, hz⟩
      · rintro ⟨t, ht, z⟩
        by_cases y : t = i
        · exact Or.inr (y ▸ z.1)
        · exact Or.inl ⟨t, by omega, z⟩
