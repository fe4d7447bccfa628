/-! X's loops, each against its pure picture -/
theorem xl_atMost {post : Int32 → SX → Prop} {a b c k : Int32} {d : Nat} {s : Nat → Int32} (hd : d < 5)
    (h : post (nI (d + 1)) (nI (d + 1), fi_l s (d * 512) 512 (fun t => pb_of (¬ k < ws_i a b c (nI t))))) :
    ∃ n, wX_atMost_64 post a b c k (nI (d * 512)) (nI d) n 0 s := by
  refine loop_0 (fun n i s' => wX_atMost_64 post a b c k (nI (d * 512)) (nI d) n (nI i) s') (fun i s' => s' = fi_l s (d * 512) i (fun t => pb_of (¬ k < ws_i a b c (nI t)))) 512 s fi_0.symm ?_ ?_
  · intro n s' hs
    subst hs
    exact br_t le_512 (nm_r (nI_1 d) h)
  · intro n i s' hi hs ih
    refine br_f (lt_512 hi) (xs_ws ?_)
    refine br_c (fun hc => ⟨ce_in (by omega), ?_⟩) (fun hc => ⟨ce_in (by omega), ?_⟩)
    · exact nm_r (st_s hs (by omega) (ng_0 rfl (fun z => z hc))) (nm_r (nI_1 i) (ih _ rfl))
    · exact nm_r (st_s hs (by omega) (ng_1 rfl hc)) (nm_r (nI_1 i) (ih _ rfl))
theorem xl_congruent {post : Int32 → SX → Prop} {a b c m r : Int32} {d : Nat} {s : Nat → Int32} (hd : d < 5) (hm : ¬ m = 0)
    (h : post (nI (d + 1)) (nI (d + 1), fi_l s (d * 512) 512 (fun t => pb_of ((ws_i a b c (nI t) - r) - (ws_i a b c (nI t) - r) / m * m = 0)))) :
    ∃ n, wX_congruent_90 post m r a b c (nI (d * 512)) (nI d) n 0 s := by
  refine loop_0 (fun n i s' => wX_congruent_90 post m r a b c (nI (d * 512)) (nI d) n (nI i) s') (fun i s' => s' = fi_l s (d * 512) i (fun t => pb_of ((ws_i a b c (nI t) - r) - (ws_i a b c (nI t) - r) / m * m = 0))) 512 s fi_0.symm ?_ ?_
  · intro n s' hs
    subst hs
    exact br_t le_512 (nm_r (nI_1 d) h)
  · intro n i s' hi hs ih
    refine br_f (lt_512 hi) (xs_ws ?_)
    refine nm_e ⟨hm, br_c (fun hc => ⟨ce_in (by omega), ?_⟩) (fun hc => ⟨ce_in (by omega), ?_⟩)⟩
    · exact nm_r (st_s hs (by omega) (ng_1 rfl hc)) (nm_r (nI_1 i) (ih _ rfl))
    · exact nm_r (st_s hs (by omega) (ng_0 rfl hc)) (nm_r (nI_1 i) (ih _ rfl))
theorem xl_negate {post : SX → Prop} {d : Nat} {s : Nat → Int32} (hd : d < 5)
    (h : post (nI (d + 1), fi_l s (d * 512) 512 (fun t => pb_of (s (d * 512 + t) = 0)))) : wpX_negateTop post (nI (d + 1), s) := by
  unfold wpX_negateTop
  dsimp only
  refine xs_top ?_
  refine loop_0 (fun n i s' => wX_negateTop_7 post (nI (d * 512)) (nI (d + 1)) n (nI i) s') (fun i s' => s' = fi_l s (d * 512) i (fun t => pb_of (s (d * 512 + t) = 0))) 512 s fi_0.symm ?_ ?_
  · intro n s' hs
    subst hs
    exact br_t le_512 h
  · intro n i s' hi hs ih
    have hr : s' (nI (d * 512) + nI i).toNatClampNeg = s (d * 512 + i) := rd_f hs (by omega)
    refine br_f (lt_512 hi) ⟨ce_in (by omega), br_c (fun hc => ⟨ce_in (by omega), ?_⟩) (fun hc => ⟨ce_in (by omega), ?_⟩)⟩
    · exact nm_r (st_s hs (by omega) (ng_1 rfl (hr.symm.trans hc))) (nm_r (nI_1 i) (ih _ rfl))
    · exact nm_r (st_s hs (by omega) (ng_0 rfl (fun z => hc (hr.trans z)))) (nm_r (nI_1 i) (ih _ rfl))
theorem xl_join {post : SX → Prop} {d k : Nat} {s : Nat → Int32} (hd : d < 4) (h1 : 1 ≤ k) (h4 : k ≤ 4)
    (h : post (nI (d + 1), fi_l s (d * 512) 512 (fun t => pb_of (jo_p k (s (d * 512 + t)) (s ((d + 1) * 512 + t)))))) : wpX_joinTopTwo post (nI (d + 2), s) (nI k) := by
  unfold wpX_joinTopTwo
  dsimp only
  refine xs_top (d := d + 1) ?_
  refine nm_r (e' := nI (d * 512)) ((pk_sub (a := (d + 1) * 512) (b := 512) (by omega)).trans (congrArg nI (by omega))) ?_
  refine loop_0 (fun n i s' => wX_joinTopTwo_14 post (nI k) (nI ((d + 1) * 512)) (nI (d * 512)) (nI (d + 2)) n (nI i) s') (fun i s' => s' = fi_l s (d * 512) i (fun t => pb_of (jo_p k (s (d * 512 + t)) (s ((d + 1) * 512 + t))))) 512 s fi_0.symm ?_ ?_
  · intro n s' hs
    subst hs
    exact br_t le_512 (nm_r (nI_pred (d + 1)) h)
  · intro n i s' hi hs ih
    have hr : s' (nI (d * 512) + nI i).toNatClampNeg = s (d * 512 + i) := rd_f hs (by omega)
    have hr2 : s' (nI ((d + 1) * 512) + nI i).toNatClampNeg = s ((d + 1) * 512 + i) := rd_o hs (by omega) (by omega)
    refine br_f (lt_512 hi) ⟨ce_in (by omega), ce_in (by omega), ?_⟩
    refine xs_jo h1 h4 ⟨ce_in (by omega), ?_⟩
    exact nm_r (st_s hs (by omega) (by rw [hr, hr2]; exact bo_v (pb_01 _))) (nm_r (nI_1 i) (ih _ rfl))
theorem xl_copy {post : Int32 → SX → Prop} {d p : Nat} {s : Nat → Int32} (hd : d < 5) (hp : p < d) (ha : bo_a s)
    (h : post (nI (d + 1)) (nI (d + 1), fi_l s (d * 512) 512 (fun t => s (p * 512 + t)))) :
    ∃ n, wX_copy_39 post (nI (p * 512)) (nI (d * 512)) (nI d) n 0 s := by
  refine loop_0 (fun n i s' => wX_copy_39 post (nI (p * 512)) (nI (d * 512)) (nI d) n (nI i) s') (fun i s' => s' = fi_l s (d * 512) i (fun t => s (p * 512 + t))) 512 s fi_0.symm ?_ ?_
  · intro n s' hs
    subst hs
    exact br_t le_512 (nm_r (nI_1 d) h)
  · intro n i s' hi hs ih
    have hr : s' (nI (p * 512) + nI i).toNatClampNeg = s (p * 512 + i) := rd_o hs (by omega) (by omega)
    refine br_f (lt_512 hi) ⟨ce_in (by omega), ce_in (by omega), ?_⟩
    exact nm_r (st_s hs (by omega) (by rw [hr]; exact bo_v (ha _))) (nm_r (nI_1 i) (ih _ rfl))
theorem xl_hol {post : Int32 → Prop} {F S : Nat} {H : Int32} {s : Nat → Int32} (hF : F + 7 * S < 2560)
    (h : post (nI (cn_t (fun x => s (F + x * S)) 8))) : wpX_heldOnLine post (H, s) (nI F) (nI S) := by
  refine loop_0 (fun n i c => wX_heldOnLine_5 post (nI F) (nI S) H s n c (nI i)) (fun i c => c = nI (cn_t (fun x => s (F + x * S)) i)) 8 0 rfl ?_ ?_
  · intro n c hc
    subst hc
    exact br_t le_8 h
  · intro n i c hi hc ih
    have hb : F + i * S < 2560 := Nat.lt_of_le_of_lt (Nat.add_le_add_left (Nat.mul_le_mul_right S (by omega)) F) hF
    refine br_f (lt_8 hi) ⟨cl_in hb, br_c (fun hz => ?_) (fun hz => ?_)⟩
    · rw [cl_cl hb] at hz
      refine nm_r (nI_1 i) (ih _ ?_)
      rw [hc, cn_z (p := fun x => s (F + x * S)) hz]
    · rw [cl_cl hb] at hz
      refine nm_e (nm_r (nI_1 i) (ih _ ?_))
      rw [hc, cn_o (p := fun x => s (F + x * S)) hz, nI_1]
theorem xl_fill {post : SX → Prop} {F S : Nat} {H x : Int32} {s : Nat → Int32} (hF : F + 7 * S < 2560) (hx : x = 0 ∨ x = 1)
    (h : post (H, li_a s F S x 8)) : wpX_fillLine post (H, s) (nI F) (nI S) x := by
  refine loop_0 (fun n i s' => wX_fillLine_3 post (nI F) (nI S) x H n (nI i) s') (fun i s' => s' = li_a s F S x i) 8 s rfl ?_ ?_
  · intro n c hc
    subst hc
    exact br_t le_8 h
  · intro n i c hi hc ih
    have hb : F + i * S < 2560 := Nat.lt_of_le_of_lt (Nat.add_le_add_left (Nat.mul_le_mul_right S (by omega)) F) hF
    refine br_f (lt_8 hi) ⟨cl_in hb, nm_e (nm_r (nI_1 i) (ih _ ?_))⟩
    rw [cl_cl hb, bo_v hx, hc]
    rfl
theorem xl_ht {post : Int32 → Prop} {p : Nat} {H P : Int32} {s : Nat → Int32} (hp : p < 5) (e : P = nI p)
    (h : post (nI (cn_t (fun t => s (p * 512 + t)) 512))) : wpX_heldTriples post (H, s) P := by
  subst e
  refine nm_r (ti_x p) ?_
  refine loop_0 (fun n i c => wX_heldTriples_11 post (nI (p * 512)) H s n c (nI i)) (fun i c => c = nI (cn_t (fun t => s (p * 512 + t)) i)) 512 0 rfl ?_ ?_
  · intro n c hc
    subst hc
    exact br_t le_512 h
  · intro n i c hi hc ih
    have hb : p * 512 + i < 2560 := by omega
    refine br_f (lt_512 hi) ⟨ce_in hb, br_c (fun hz => ?_) (fun hz => ?_)⟩
    · rw [ce_cl hb] at hz
      refine nm_r (nI_1 i) (ih _ ?_)
      rw [hc, cn_z (p := fun t => s (p * 512 + t)) hz]
    · rw [ce_cl hb] at hz
      refine nm_e (nm_r (nI_1 i) (ih _ ?_))
      rw [hc, cn_o (p := fun t => s (p * 512 + t)) hz, nI_1]
/-- a line's answer -/
noncomputable def qu_g (s : Nat → Int32) (T v : Nat) (need : Int32) (n : Nat) : Int32 := pb_of (¬ nI (cn_t (fun x => s (T + n + x * 8 ^ v)) 8) < need)
theorem qu_b {v n : Nat} (hv : v < 3) (hn : n < 512) (h : dg_v v n = 0) : n + 7 * 8 ^ v < 512 := by
  have h1 := dg_l hv hn (x := 7) (by decide)
  rw [(dg_0 hv hn).mp h] at h1
  exact h1
theorem xl_quant {post : Int32 → SX → Prop} {d v : Nat} {need : Int32} {s : Nat → Int32} (hd : d < 5) (hv : v < 3)
    (h : post (nI (cn_t (fun t => qu_a s (d * 512) v 512 (qu_g s (d * 512) v need) (d * 512 + t)) 512)) (nI (d + 1), qu_a s (d * 512) v 512 (qu_g s (d * 512) v need))) :
    ∃ n, wX_quantify_34 post (nI v) need (nI (d * 512)) (nI (8 ^ v)) n 0 (nI (d + 1)) s := by
  refine loop_0 (fun n i s' => wX_quantify_34 post (nI v) need (nI (d * 512)) (nI (8 ^ v)) n (nI i) (nI (d + 1)) s') (fun i s' => s' = qu_a s (d * 512) v i (qu_g s (d * 512) v need)) 512 s qu_0.symm ?_ ?_
  · intro n s' hs
    subst hs
    exact br_t le_512 (xl_ht hd (nI_pred d) h)
  · intro n i s' hi hs ih
    refine br_f (lt_512 hi) (xs_val hv hi ?_)
    by_cases hz : dg_v v i = 0
    · have hb := qu_b hv hi hz
      refine br_t (by rw [hz]; exact nI_0) ?_
      rw [nI_add]
      refine xl_hol (by omega) ?_
      have hc : cn_t (fun x => s' (d * 512 + i + x * 8 ^ v)) 8 = cn_t (fun x => s (d * 512 + i + x * 8 ^ v)) 8 := cn_c (fun t ht => by rw [hs]; exact qu_read hv hi hz ht)
      rw [hc]
      refine br_c (fun hl => ?_) (fun hl => ?_)
      · refine xl_fill (by omega) (Or.inl rfl) (nm_r (nI_1 i) (ih _ ?_))
        rw [hs]
        have hg : qu_g s (d * 512) v need i = 0 := pb_f (fun z => z hl)
        rw [← hg]
        exact qu_line hv hi hz
      · refine xl_fill (by omega) (Or.inr rfl) (nm_r (nI_1 i) (ih _ ?_))
        rw [hs]
        have hg : qu_g s (d * 512) v need i = 1 := pb_t hl
        rw [← hg]
        exact qu_line hv hi hz
    · refine br_f (fun z => hz ((nI_eq (b := 0) (by have := dg_lt hv hi; omega) (by decide)).mp z)) (nm_r (nI_1 i) (ih _ ?_))
      rw [hs]
      exact (qu_keep hv hi hz).symm
theorem xl_exch {post : Int32 → SX → Prop} {d u v : Nat} {s : Nat → Int32} (hd : d < 5) (hu : u < 3) (hv : v < 3) (ha : bo_a s)
    (h : post 0 (nI (d + 1), fi_l s (d * 512) 512 (fun t => s (d * 512 + dg_ex u v t)))) :
    ∃ n, wX_exchange_35 post (nI u) (nI v) (nI (d * 512)) n 0 (nI (d + 1)) s := by
  refine loop_0 (fun n i s' => wX_exchange_35 post (nI u) (nI v) (nI (d * 512)) n (nI i) (nI (d + 1)) s') (fun i s' => s' = sw_a s (d * 512) (dg_ex u v) i) 512 s sw_0.symm ?_ ?_
  · intro n s' hs
    rw [sw_end] at hs
    subst hs
    exact br_t le_512 h
  · intro n i s' hi hs ih
    have hf := dg_exf u hu v hv
    have hl := (hf i hi).1
    refine br_f (lt_512 hi) (xs_ex hu hv hi ?_)
    refine br_c (fun hc => nm_r (nI_1 i) (ih _ ?_)) (fun hc => ?_)
    · have hc' : dg_ex u v i ≤ i := (nI_leI (by omega) (by omega)).mp hc
      rw [hs]
      exact (sw_keep hf hi (by omega)).symm
    · have hc' : i < dg_ex u v i := Nat.lt_of_not_le (fun z => hc (nI_le z (by omega)))
      refine xs_sw (i := d * 512 + i) (j := d * 512 + dg_ex u v i) (by rw [hs]; exact sw_01 ha) (by omega) (by omega) (nI_add _ _) (nI_add _ _) (nm_r (nI_1 i) (ih _ ?_))
      rw [hs]
      exact sw_swap hf hi hc'
theorem xl_mirr {post : Int32 → SX → Prop} {d v : Nat} {s : Nat → Int32} (hd : d < 5) (hv : v < 3) (ha : bo_a s)
    (h : post 0 (nI (d + 1), fi_l s (d * 512) 512 (fun t => s (d * 512 + dg_mi v t)))) :
    ∃ n, wX_mirror_27 post (nI v) (nI (d * 512)) n 0 (nI (d + 1)) s := by
  refine loop_0 (fun n i s' => wX_mirror_27 post (nI v) (nI (d * 512)) n (nI i) (nI (d + 1)) s') (fun i s' => s' = sw_a s (d * 512) (dg_mi v) i) 512 s sw_0.symm ?_ ?_
  · intro n s' hs
    rw [sw_end] at hs
    subst hs
    exact br_t le_512 h
  · intro n i s' hi hs ih
    have hf := dg_mif v hv
    have hl := (hf i hi).1
    refine br_f (lt_512 hi) (xs_mi hv hi ?_)
    refine br_c (fun hc => nm_r (nI_1 i) (ih _ ?_)) (fun hc => ?_)
    · have hc' : dg_mi v i ≤ i := (nI_leI (by omega) (by omega)).mp hc
      rw [hs]
      exact (sw_keep hf hi (by omega)).symm
    · have hc' : i < dg_mi v i := Nat.lt_of_not_le (fun z => hc (nI_le z (by omega)))
      refine xs_sw (i := d * 512 + i) (j := d * 512 + dg_mi v i) (by rw [hs]; exact sw_01 ha) (by omega) (by omega) (nI_add _ _) (nI_add _ _) (nm_r (nI_1 i) (ih _ ?_))
      rw [hs]
      exact sw_swap hf hi hc'
theorem xl_next {post : Int32 → Prop} {after H : Int32} {p : Nat} {s : Nat → Int32} (hp : p < 5)
    (h1 : ∀ t, t < 512 → (¬ nI t ≤ after ∧ ¬ s (p * 512 + t) = 0) → (∀ t', t' < t → ¬ (¬ nI t' ≤ after ∧ ¬ s (p * 512 + t') = 0)) → post (nI t))
    (h0 : (∀ t, t < 512 → ¬ (¬ nI t ≤ after ∧ ¬ s (p * 512 + t) = 0)) → post (-2)) :
    ∃ n, wX_next_19 post after (nI (p * 512)) H s n 0 := by
  refine loop_0 (fun n i (_ : Unit) => wX_next_19 post after (nI (p * 512)) H s n (nI i)) (fun i _ => ∀ t, t < i → ¬ (¬ nI t ≤ after ∧ ¬ s (p * 512 + t) = 0)) 512 () lt_0 ?_ ?_
  · intro n _ hs
    exact br_t le_512 (h0 hs)
  · intro n i _ hi hs ih
    have hb : p * 512 + i < 2560 := by omega
    refine br_f (lt_512 hi) (br_c (fun hc => nm_r (nI_1 i) (ih () (lt_s hs (fun z => z.1 hc)))) (fun hc => ⟨ce_in hb, br_c (fun hz => nm_r (nI_1 i) (ih () (lt_s hs (fun z => z.2 ?_)))) (fun hz => h1 i hi ⟨hc, ?_⟩ hs)⟩))
    · rw [ce_cl hb] at hz; exact hz
    · rw [ce_cl hb] at hz; exact hz
theorem xl_sub {post : Int32 → Prop} {H : Int32} {p q : Nat} {s : Nat → Int32} (hp : p < 5) (hq : q < 5)
    (h1 : (∀ t, t < 512 → ¬ s (p * 512 + t) = 0 → ¬ s (q * 512 + t) = 0) → post 1)
    (h0 : (∃ t, t < 512 ∧ ¬ s (p * 512 + t) = 0 ∧ s (q * 512 + t) = 0) → post 0) : wpX_isSubset post (H, s) (nI p) (nI q) := by
  refine nm_r (ti_x p) (nm_r (ti_x q) ?_)
  refine loop_0 (fun n i (_ : Unit) => wX_isSubset_16 post (nI (p * 512)) (nI (q * 512)) H s n (nI i)) (fun i _ => ∀ t, t < i → ¬ s (p * 512 + t) = 0 → ¬ s (q * 512 + t) = 0) 512 () lt_0 ?_ ?_
  · intro n _ hs
    exact br_t le_512 (h1 hs)
  · intro n i _ hi hs ih
    have hb : p * 512 + i < 2560 := by omega
    have hb2 : q * 512 + i < 2560 := by omega
    refine br_f (lt_512 hi) ⟨ce_in hb, br_c (fun hc => ?_) (fun hc => ⟨ce_in hb2, br_c (fun hz => ?_) (fun hz => ?_)⟩)⟩
    · rw [ce_cl hb] at hc
      exact nm_r (nI_1 i) (ih () (lt_s hs (fun z => absurd hc z)))
    · rw [ce_cl hb] at hc
      rw [ce_cl hb2] at hz
      exact h0 ⟨i, hi, hc, hz⟩
    · rw [ce_cl hb2] at hz
      exact nm_r (nI_1 i) (ih () (lt_s hs (fun _ => hz)))
theorem xl_dep {post : Int32 → Prop} {H : Int32} {p v : Nat} {s : Nat → Int32} (hp : p < 5) (hv : v < 3)
    (h1 : (∃ n, n < 512 ∧ dg_v v n = 0 ∧ (∃ x, x < 8 ∧ ¬ s (p * 512 + n + x * 8 ^ v) = 0) ∧ (∃ x, x < 8 ∧ s (p * 512 + n + x * 8 ^ v) = 0)) → post 1)
    (h0 : (∀ n, n < 512 → dg_v v n = 0 → (∀ x, x < 8 → s (p * 512 + n + x * 8 ^ v) = 0) ∨ (∀ x, x < 8 → ¬ s (p * 512 + n + x * 8 ^ v) = 0)) → post 0) :
    ∃ n, wX_depends_35 post (nI v) (nI (p * 512)) (nI (8 ^ v)) H s n 0 := by
  refine loop_0 (fun n i (_ : Unit) => wX_depends_35 post (nI v) (nI (p * 512)) (nI (8 ^ v)) H s n (nI i)) (fun i _ => ∀ n, n < i → dg_v v n = 0 → (∀ x, x < 8 → s (p * 512 + n + x * 8 ^ v) = 0) ∨ (∀ x, x < 8 → ¬ s (p * 512 + n + x * 8 ^ v) = 0)) 512 () lt_0 ?_ ?_
  · intro n _ hs
    exact br_t le_512 (h0 hs)
  · intro n i _ hi hs ih
    refine br_f (lt_512 hi) (xs_val hv hi ?_)
    by_cases hz : dg_v v i = 0
    · have hb := qu_b hv hi hz
      refine br_t (by rw [hz]; exact nI_0) ?_
      rw [nI_add]
      refine xl_hol (by omega) ?_
      have hl := cn_le (fun x => s (p * 512 + i + x * 8 ^ v)) 8
      have hq1 := cn_pos (p := fun x => s (p * 512 + i + x * 8 ^ v)) 8
      have hq8 := cn_full (p := fun x => s (p * 512 + i + x * 8 ^ v)) 8
      refine br_c (fun hc => nm_r (nI_1 i) (ih () (lt_s hs (fun _ => Or.inl ?_)))) (fun hc => br_c (fun hd => nm_r (nI_1 i) (ih () (lt_s hs (fun _ => Or.inr ?_)))) (fun hd => h1 ⟨i, hi, hz, ?_, ?_⟩))
      · have hc' := (nI_leI (b := 0) (by omega) (by decide)).mp hc
        intro x hx
        refine Classical.byContradiction (fun z => ?_)
        have := hq1.mpr ⟨x, hx, z⟩
        omega
      · have hd' := (nI_leI (a := 8) (by decide) (by omega)).mp hd
        exact hq8.mp hd'
      · have hc' : ¬ cn_t (fun x => s (p * 512 + i + x * 8 ^ v)) 8 ≤ 0 := fun z => hc (nI_le (b := 0) z (by decide))
        exact hq1.mp (by omega)
      · have hd' : ¬ 8 ≤ cn_t (fun x => s (p * 512 + i + x * 8 ^ v)) 8 := fun z => hd (nI_le (a := 8) z (by omega))
        refine Classical.byContradiction (fun z => hd' (hq8.mpr (fun x hx y => z ⟨x, hx, y⟩)))
    · refine br_f (fun z => hz ((nI_eq (b := 0) (by have := dg_lt hv hi; omega) (by decide)).mp z)) (nm_r (nI_1 i) (ih () (lt_s hs (fun z => absurd z hz))))
theorem xl_taken {post : Int32 → Prop} {H : Int32} {p v x : Nat} {s : Nat → Int32} (hp : p < 5) (hv : v < 3) (hx : x < 8)
    (h : post (pb_of (∃ t, t < 512 ∧ dg_v v t = x ∧ ¬ s (p * 512 + t) = 0))) : wpX_isTaken post (H, s) (nI p) (nI v) (nI x) := by
  refine nm_r (ti_x p) ?_
  refine loop_0 (fun n i (_ : Unit) => wX_isTaken_10 post (nI v) (nI x) (nI (p * 512)) H s n (nI i)) (fun i _ => ∀ t, t < i → ¬ (dg_v v t = x ∧ ¬ s (p * 512 + t) = 0)) 512 () lt_0 ?_ ?_
  · intro n _ hs
    rw [pb_f (fun ⟨t, ht, z⟩ => hs t ht z)] at h
    exact br_t le_512 h
  · intro n i _ hi hs ih
    have hb : p * 512 + i < 2560 := by omega
    have hw := dg_lt hv hi
    refine br_f (lt_512 hi) (xs_val hv hi ?_)
    refine br_c (fun hc => ⟨ce_in hb, br_c (fun hz => ?_) (fun hz => ?_)⟩) (fun hc => ?_)
    · rw [ce_cl hb] at hz
      exact nm_r (nI_1 i) (ih () (lt_s hs (fun y => y.2 hz)))
    · rw [ce_cl hb] at hz
      have hc' := (nI_eq (by omega) (by omega)).mp hc
      rw [pb_t ⟨i, hi, hc', hz⟩] at h
      exact h
    · exact nm_r (nI_1 i) (ih () (lt_s hs (fun y => hc (congrArg nI y.1))))
theorem xl_vals {post : Int32 → Prop} {H : Int32} {p v : Nat} {s : Nat → Int32} (hp : p < 5) (hv : v < 3)
    (h : post (nI (cn_t (fun x => pb_of (∃ t, t < 512 ∧ dg_v v t = x ∧ ¬ s (p * 512 + t) = 0)) 8))) : ∃ n, wX_values_25 post (nI p) (nI v) H s n 0 0 := by
  refine loop_0 (fun n i c => wX_values_25 post (nI p) (nI v) H s n c (nI i)) (fun i c => c = nI (cn_t (fun x => pb_of (∃ t, t < 512 ∧ dg_v v t = x ∧ ¬ s (p * 512 + t) = 0)) i)) 8 0 rfl ?_ ?_
  · intro n c hc
    subst hc
    exact br_t le_8 h
  · intro n i c hi hc ih
    refine br_f (lt_8 hi) (xl_taken hp hv hi ?_)
    refine br_c (fun hz => nm_r (nI_1 i) (ih _ ?_)) (fun hz => nm_e (nm_r (nI_1 i) (ih _ ?_)))
    · rw [hc, cn_z (p := fun x => pb_of (∃ t, t < 512 ∧ dg_v v t = x ∧ ¬ s (p * 512 + t) = 0)) hz]
    · rw [hc, cn_o (p := fun x => pb_of (∃ t, t < 512 ∧ dg_v v t = x ∧ ¬ s (p * 512 + t) = 0)) hz, nI_1]
