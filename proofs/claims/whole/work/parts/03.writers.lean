/-! the loops that fill the scratch row, on both sides against one row g -/
section
variable {d m a b c o V u v : Nat} {fv pf cc : Int32} {vals made pv res : Nat → Int32} {post : Int32 → SX → Prop} {posy : Int32 → SY → Prop}
theorem zd_xconstant (hd : d < 8) (hm : m ≤ 32) (hp : ∀ z, post 1 (fv, nI m, pf, zd_cp vals d m (fun _ => cc), z, pv)) : ∃ n, wX_constant_11 post (nI d) cc fv (nI m) pf n 0 vals made pv :=
  loop_0 (fun n i s => wX_constant_11 post (nI d) cc fv (nI m) pf n (nI i) vals s pv) (fun i s => ∀ x, x < i → s x = (fun _ => cc) x) m made lt_0
    (fun n s hI => br_t (nI_le (Nat.le_refl m) (by omega)) (zd_put hd hm hI (hp s)))
    (fun n i s hi hI K => br_f (nI_ge hi (by omega)) (zd_st (by omega) hI rfl K))
theorem zd_yconstant (hd : d < 8) (hm : m ≤ 32) (hp : ∀ z, posy 1 (fv, nI m, zd_cp vals d m (fun _ => cc), z)) : ∃ n, wY_constant_12 posy (nI d) cc fv (nI m) n 0 vals res :=
  loop_0 (fun n i s => wY_constant_12 posy (nI d) cc fv (nI m) n (nI i) vals s) (fun i s => ∀ x, x < i → s x = (fun _ => cc) x) m res lt_0
    (fun n s hI => br_t (nI_le (Nat.le_refl m) (by omega)) (zd_keep hd hm hI ⟨zd_nb, hp s⟩))
    (fun n i s hi hI K => br_f (nI_ge hi (by omega)) (zd_st (by omega) hI rfl K))
theorem zd_xliteral (hd : d < 8) (hm : m ≤ 32) (hp : ∀ z, post 1 (fv, nI m, pf, zd_cp vals d m (fun x => zd_bi x v), z, pv)) : ∃ n, wX_literal_19 post (nI d) (nI v) fv (nI m) pf n 0 vals made pv :=
  loop_0 (fun n i s => wX_literal_19 post (nI d) (nI v) fv (nI m) pf n (nI i) vals s pv) (fun i s => ∀ x, x < i → s x = (fun x => zd_bi x v) x) m made lt_0
    (fun n s hI => br_t (nI_le (Nat.le_refl m) (by omega)) (zd_put hd hm hI (hp s)))
    (fun n i s hi hI K => br_f (nI_ge hi (by omega)) (zd_st (by omega) hI rfl K))
theorem zd_yliteral (hd : d < 8) (hm : m ≤ 32) (hp : ∀ z, posy 1 (fv, nI m, zd_cp vals d m (fun x => zd_bi x v), z)) : ∃ n, wY_literal_20 posy (nI d) (nI v) fv (nI m) n 0 vals res :=
  loop_0 (fun n i s => wY_literal_20 posy (nI d) (nI v) fv (nI m) n (nI i) vals s) (fun i s => ∀ x, x < i → s x = (fun x => zd_bi x v) x) m res lt_0
    (fun n s hI => br_t (nI_le (Nat.le_refl m) (by omega)) (zd_keep hd hm hI ⟨zd_nb, hp s⟩))
    (fun n i s hi hI K => br_f (nI_ge hi (by omega)) (zd_st (by omega) hI rfl K))
theorem zd_xapply (hd : d < 8) (ha : a < 8) (hb : b < 8) (ho : o < 7) (hm : m ≤ 32) (hp : ∀ z, post 1 (fv, nI m, pf, zd_cp vals d m (fun x => zd_op o (vals (32 * a + x)) (vals (32 * b + x))), z, pv)) : ∃ n, wX_apply_34 post (nI d) (nI o) (nI a) (nI b) fv (nI m) pf n 0 vals made pv :=
  loop_0 (fun n i s => wX_apply_34 post (nI d) (nI o) (nI a) (nI b) fv (nI m) pf n (nI i) vals s pv) (fun i s => ∀ x, x < i → s x = (fun x => zd_op o (vals (32 * a + x)) (vals (32 * b + x))) x) m made lt_0
    (fun n s hI => br_t (nI_le (Nat.le_refl m) (by omega)) (zd_put hd hm hI (hp s)))
    (fun n i s hi hI K => br_f (nI_ge hi (by omega)) ⟨zd_v1 (by omega) (by omega), zd_v1 (by omega) (by omega), zd_comb ho (zd_st (by omega) hI (by rw [zd_c1 (by omega), zd_c1 (by omega)]) K)⟩)
theorem zd_yapply (hd : d < 8) (ha : a < 8) (hb : b < 8) (ho : o < 7) (hm : m ≤ 32) (hp : ∀ z, posy 1 (fv, nI m, zd_cp vals d m (fun x => zd_op o (vals (32 * a + x)) (vals (32 * b + x))), z)) : ∃ n, wY_apply_40 posy (nI d) (nI o) (nI a) (nI b) fv (nI m) n 0 vals res :=
  loop_0 (fun n i s => wY_apply_40 posy (nI d) (nI o) (nI a) (nI b) fv (nI m) n (nI i) vals s) (fun i s => ∀ x, x < i → s x = (fun x => zd_op o (vals (32 * a + x)) (vals (32 * b + x))) x) m res lt_0
    (fun n s hI => br_t (nI_le (Nat.le_refl m) (by omega)) (zd_keep hd hm hI ⟨zd_nb, hp s⟩))
    (fun n i s hi hI K => br_f (nI_ge hi (by omega)) ⟨zd_v2 (by omega) (by omega), zd_v2 (by omega) (by omega), zd_oper ho (zd_st (by omega) hI (by rw [zd_c2 (by omega), zd_c2 (by omega)]) K)⟩)
theorem zd_xchoose (hd : d < 8) (hc : c < 8) (ha : a < 8) (hb : b < 8) (hm : m ≤ 32) (hp : ∀ z, post 1 (fv, nI m, pf, zd_cp vals d m (fun x => if vals (32 * c + x) = 0 then vals (32 * b + x) else vals (32 * a + x)), z, pv)) : ∃ n, wX_choose_34 post (nI d) (nI c) (nI a) (nI b) fv (nI m) pf n 0 vals made pv :=
  loop_0 (fun n i s => wX_choose_34 post (nI d) (nI c) (nI a) (nI b) fv (nI m) pf n (nI i) vals s pv) (fun i s => ∀ x, x < i → s x = (fun x => if vals (32 * c + x) = 0 then vals (32 * b + x) else vals (32 * a + x)) x) m made lt_0
    (fun n s hI => br_t (nI_le (Nat.le_refl m) (by omega)) (zd_put hd hm hI (hp s)))
    (fun n i s hi hI K => br_f (nI_ge hi (by omega)) ⟨zd_v1 (by omega) (by omega),
      br_c (fun e => ⟨zd_v1 (by omega) (by omega), zd_st (by omega) hI (by rw [zd_c1 (by omega)] at e; rw [zd_c1 (by omega)]; exact (if_pos e).symm) K⟩)
        (fun e => ⟨zd_v1 (by omega) (by omega), zd_st (by omega) hI (by rw [zd_c1 (by omega)] at e; rw [zd_c1 (by omega)]; exact (if_neg e).symm) K⟩)⟩)
theorem zd_ychoose (hd : d < 8) (hc : c < 8) (ha : a < 8) (hb : b < 8) (hm : m ≤ 32) (hp : ∀ z, posy 1 (fv, nI m, zd_cp vals d m (fun x => if vals (32 * c + x) = 0 then vals (32 * b + x) else vals (32 * a + x)), z)) : ∃ n, wY_choose_38 posy (nI d) (nI c) (nI a) (nI b) fv (nI m) n 0 vals res :=
  loop_0 (fun n i s => wY_choose_38 posy (nI d) (nI c) (nI a) (nI b) fv (nI m) n (nI i) vals s) (fun i s => ∀ x, x < i → s x = (fun x => if vals (32 * c + x) = 0 then vals (32 * b + x) else vals (32 * a + x)) x) m res lt_0
    (fun n s hI => br_t (nI_le (Nat.le_refl m) (by omega)) (zd_keep hd hm hI ⟨zd_nb, hp s⟩))
    (fun n i s hi hI K => br_f (nI_ge hi (by omega)) ⟨zd_v2 (by omega) (by omega),
      br_c (fun e => ⟨zd_v2 (by omega) (by omega), zd_st (by omega) hI (by rw [zd_c2 (by omega)] at e; rw [zd_c2 (by omega)]; exact (if_pos e).symm) K⟩)
        (fun e => ⟨zd_v2 (by omega) (by omega), zd_st (by omega) hI (by rw [zd_c2 (by omega)] at e; rw [zd_c2 (by omega)]; exact (if_neg e).symm) K⟩)⟩)
theorem zd_xfold (hV : V < 6) (hd : d < 8) (ha : a < 8) (ho : o < 7) (hv : v < V) (hp : ∀ z, post 1 (fv, nI (2 ^ V), pf, zd_cp vals d (2 ^ V) (fun x => zd_op o (vals (32 * a + zd_cl x v)) (vals (32 * a + zd_se x v))), z, pv)) : ∃ n, wX_fold_41 post (nI d) (nI o) (nI a) ((1 : Int32) <<< (nI v &&& 31)) fv (nI (2 ^ V)) pf n 0 vals made pv := by
  have hm := zd_m V hV
  have T1 := zd_tcl V hV
  have T2 := zd_tse V hV
  generalize 2 ^ V = m at *
  refine loop_0 (fun n i s => wX_fold_41 post (nI d) (nI o) (nI a) ((1 : Int32) <<< (nI v &&& 31)) fv (nI m) pf n (nI i) vals s pv) (fun i s => ∀ x, x < i → s x = (fun x => zd_op o (vals (32 * a + zd_cl x v)) (vals (32 * a + zd_se x v))) x) m made lt_0
    (fun n s hI => br_t (nI_le (Nat.le_refl m) (by omega)) (zd_put hd hm hI (hp s)))
    (fun n i s hi hI K => br_f (nI_ge hi (by omega)) ?_)
  obtain ⟨e1, b1⟩ := T1 i hi v hv
  obtain ⟨e2, b2⟩ := T2 i hi v hv
  rw [e1, e2]
  exact ⟨zd_v1 (by omega) (by omega), nm_e ⟨zd_v1 (by omega) (by omega), nm_e (zd_comb ho (zd_st (by omega) hI (by rw [zd_c1 (by omega), zd_c1 (by omega)]) K))⟩⟩
theorem zd_yfold (hV : V < 6) (hd : d < 8) (ha : a < 8) (ho : o < 7) (hv : v < V) (hp : ∀ z, posy 1 (fv, nI (2 ^ V), zd_cp vals d (2 ^ V) (fun x => zd_op o (vals (32 * a + zd_cl x v)) (vals (32 * a + zd_se x v))), z)) : ∃ n, wY_fold_40 posy (nI d) (nI o) (nI a) (nI v) fv (nI (2 ^ V)) n 0 vals res := by
  have hm := zd_m V hV
  have T1 := zd_tcl V hV
  have T2 := zd_tse V hV
  generalize 2 ^ V = m at *
  refine loop_0 (fun n i s => wY_fold_40 posy (nI d) (nI o) (nI a) (nI v) fv (nI m) n (nI i) vals s) (fun i s => ∀ x, x < i → s x = (fun x => zd_op o (vals (32 * a + zd_cl x v)) (vals (32 * a + zd_se x v))) x) m res lt_0
    (fun n s hI => br_t (nI_le (Nat.le_refl m) (by omega)) (zd_keep hd hm hI ⟨zd_nb, hp s⟩))
    (fun n i s hi hI K => br_f (nI_ge hi (by omega)) ?_)
  obtain ⟨e1, b1⟩ := T1 i hi v hv
  obtain ⟨e2, b2⟩ := T2 i hi v hv
  exact nm_r e1 (nm_r e2 ⟨zd_v2 (by omega) (by omega), zd_v2 (by omega) (by omega), zd_oper ho (zd_st (by omega) hI (by rw [zd_c2 (by omega), zd_c2 (by omega)]) K)⟩)
theorem zd_xsubstitute (hV : V < 6) (hd : d < 8) (ha : a < 8) (hb : b < 8) (hv : v < V) (hp : ∀ z, post 1 (fv, nI (2 ^ V), pf, zd_cp vals d (2 ^ V) (fun x => vals (32 * a + if vals (32 * b + x) = 0 then zd_cl x v else zd_se x v)), z, pv)) : ∃ n, wX_substitute_40 post (nI d) (nI a) (nI b) ((1 : Int32) <<< (nI v &&& 31)) fv (nI (2 ^ V)) pf n 0 vals made pv := by
  have hm := zd_m V hV
  have T1 := zd_tcl V hV
  have T2 := zd_tse V hV
  generalize 2 ^ V = m at *
  refine loop_0 (fun n i s => wX_substitute_40 post (nI d) (nI a) (nI b) ((1 : Int32) <<< (nI v &&& 31)) fv (nI m) pf n (nI i) vals s pv) (fun i s => ∀ x, x < i → s x = (fun x => vals (32 * a + if vals (32 * b + x) = 0 then zd_cl x v else zd_se x v)) x) m made lt_0
    (fun n s hI => br_t (nI_le (Nat.le_refl m) (by omega)) (zd_put hd hm hI (hp s)))
    (fun n i s hi hI K => br_f (nI_ge hi (by omega)) ⟨zd_v1 (by omega) (by omega), br_c (fun e => ?_) (fun e => ?_)⟩)
  · obtain ⟨e1, b1⟩ := T1 i hi v hv
    rw [zd_c1 (by omega)] at e
    rw [e1]
    exact ⟨zd_v1 (by omega) (by omega), zd_st (by omega) hI (by rw [zd_c1 (by omega)]; rw [if_pos e]) K⟩
  · obtain ⟨e1, b1⟩ := T2 i hi v hv
    rw [zd_c1 (by omega)] at e
    rw [e1]
    exact ⟨zd_v1 (by omega) (by omega), zd_st (by omega) hI (by rw [zd_c1 (by omega)]; rw [if_neg e]) K⟩
theorem zd_ysubstitute (hV : V < 6) (hd : d < 8) (ha : a < 8) (hb : b < 8) (hv : v < V) (hp : ∀ z, posy 1 (fv, nI (2 ^ V), zd_cp vals d (2 ^ V) (fun x => vals (32 * a + if vals (32 * b + x) = 0 then zd_cl x v else zd_se x v)), z)) : ∃ n, wY_substitute_38 posy (nI d) (nI a) (nI v) (nI b) fv (nI (2 ^ V)) n 0 vals res := by
  have hm := zd_m V hV
  have T1 := zd_tcl V hV
  have T2 := zd_tse V hV
  generalize 2 ^ V = m at *
  refine loop_0 (fun n i s => wY_substitute_38 posy (nI d) (nI a) (nI v) (nI b) fv (nI m) n (nI i) vals s) (fun i s => ∀ x, x < i → s x = (fun x => vals (32 * a + if vals (32 * b + x) = 0 then zd_cl x v else zd_se x v)) x) m res lt_0
    (fun n s hI => br_t (nI_le (Nat.le_refl m) (by omega)) (zd_keep hd hm hI ⟨zd_nb, hp s⟩))
    (fun n i s hi hI K => br_f (nI_ge hi (by omega)) ⟨zd_v2 (by omega) (by omega), br_c (fun e => br_f (by decide) ?_) (fun e => br_t rfl ?_)⟩)
  · obtain ⟨e1, b1⟩ := T1 i hi v hv
    rw [zd_c2 (by omega)] at e
    rw [e1]
    exact ⟨zd_v2 (by omega) (by omega), zd_st (by omega) hI (by rw [zd_c2 (by omega)]; rw [if_pos e]) K⟩
  · obtain ⟨e1, b1⟩ := T2 i hi v hv
    rw [zd_c2 (by omega)] at e
    rw [e1]
    exact ⟨zd_v2 (by omega) (by omega), zd_st (by omega) hI (by rw [zd_c2 (by omega)]; rw [if_neg e]) K⟩
theorem zd_xexchange (hV : V < 6) (hd : d < 8) (ha : a < 8) (hu : u < V) (hv : v < V) (hp : ∀ z, post 1 (fv, nI (2 ^ V), pf, zd_cp vals d (2 ^ V) (fun x => vals (32 * a + zd_ex x u v)), z, pv)) : ∃ n, wX_exchange_36 post (nI d) (nI a) (nI u) (nI v) fv (nI (2 ^ V)) pf n 0 vals made pv := by
  have hm := zd_m V hV
  refine loop_0 (fun n i s => wX_exchange_36 post (nI d) (nI a) (nI u) (nI v) fv (nI (2 ^ V)) pf n (nI i) vals s pv) (fun i s => ∀ x, x < i → s x = (fun x => vals (32 * a + zd_ex x u v)) x) (2 ^ V) made lt_0
    (fun n s hI => br_t (nI_le (Nat.le_refl _) (by omega)) (zd_put hd hm hI (hp s)))
    (fun n i s hi hI K => br_f (nI_ge hi (by omega)) (zd_wex hV hi hu hv ?_))
  have b1 := zd_tex0 V hV i hi u hu v hv
  exact ⟨zd_v1 (by omega) (by omega), zd_st (by omega) hI (by rw [zd_c1 (by omega)]) K⟩
theorem zd_yexchange (hV : V < 6) (hd : d < 8) (ha : a < 8) (hu : u < V) (hv : v < V) (hp : ∀ z, posy 1 (fv, nI (2 ^ V), zd_cp vals d (2 ^ V) (fun x => vals (32 * a + zd_ex x u v)), z)) : ∃ n, wY_exchange_38 posy (nI d) (nI a) (nI u) (nI v) fv (nI (2 ^ V)) n 0 vals res := by
  have hm := zd_m V hV
  refine loop_0 (fun n i s => wY_exchange_38 posy (nI d) (nI a) (nI u) (nI v) fv (nI (2 ^ V)) n (nI i) vals s) (fun i s => ∀ x, x < i → s x = (fun x => vals (32 * a + zd_ex x u v)) x) (2 ^ V) res lt_0
    (fun n s hI => br_t (nI_le (Nat.le_refl _) (by omega)) (zd_keep hd hm hI ⟨zd_nb, hp s⟩))
    (fun n i s hi hI K => br_f (nI_ge hi (by omega)) (zd_bit (zd_bit (zd_with (zd_with ?_)))))
  have b1 := zd_tex0 V hV i hi u hu v hv
  have e1 : zd_wi (zd_wi (nI i) (nI u) ((nI i >>> (nI v &&& 31)) &&& 1)) (nI v) ((nI i >>> (nI u &&& 31)) &&& 1) = nI (zd_ex i u v) := zd_tex2 V hV i hi u hu v hv
  rw [e1]
  exact ⟨zd_v2 (by omega) (by omega), zd_st (by omega) hI (by rw [zd_c2 (by omega)]) K⟩
end
