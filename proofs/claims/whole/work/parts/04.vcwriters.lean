/-! the owed statements of the writers -/
section
theorem i_vc_constant {k : Nat} {u : SX} {v : SY} (I : i_Rel k u v) (hk : k + 5 ≤ 2561) (v1 : Int32) (v2 : Int32) : wpX_constant (fun r u' => wpY_constant (fun r' v' => r' = r ∧ i_Rel (k + 5) u' v') v v1 v2) u v1 v2 := by
  obtain ⟨V, pf, vals, made, pv, res, h2, h5, rfl, rfl⟩ := I
  have hm := zd_m V h5
  unfold wpX_constant
  dsimp only
  refine zd_gX (fun hn => ?_) (fun hg => ?_)
  · unfold wpY_constant
    dsimp only
    exact zd_gY (fun _ => ⟨rfl, V, pf, vals, made, pv, res, h2, h5, rfl, rfl⟩) (fun hg => absurd hg hn)
  · obtain ⟨d, hd, rfl⟩ := hg
    refine zd_xconstant hd hm (fun made' => ?_)
    unfold wpY_constant
    dsimp only
    exact zd_gY (fun hn => absurd ⟨d, hd, rfl⟩ hn) (fun _ => zd_yconstant hd hm (fun res' => ⟨rfl, V, pf, _, made', pv, res', h2, h5, rfl, rfl⟩))
theorem i_vc_literal {k : Nat} {u : SX} {v : SY} (I : i_Rel k u v) (hk : k + 5 ≤ 2561) (v1 : Int32) (v2 : Int32) : wpX_literal (fun r u' => wpY_literal (fun r' v' => r' = r ∧ i_Rel (k + 5) u' v') v v1 v2) u v1 v2 := by
  obtain ⟨V, pf, vals, made, pv, res, h2, h5, rfl, rfl⟩ := I
  have hm := zd_m V h5
  have bad : ¬ (zd_in 8 v1 ∧ zd_in V v2) → wpY_literal (fun r' v' => r' = 0 ∧ i_Rel (k + 5) (nI V, nI (2 ^ V), pf, vals, made, pv) v') (nI V, nI (2 ^ V), vals, res) v1 v2 := by
    intro hn
    have R : (0 : Int32) = 0 ∧ i_Rel (k + 5) (nI V, nI (2 ^ V), pf, vals, made, pv) (nI V, nI (2 ^ V), vals, res) := ⟨rfl, V, pf, vals, made, pv, res, h2, h5, rfl, rfl⟩
    unfold wpY_literal
    dsimp only
    exact zd_gY (fun _ => R) (fun g1 => zd_gVY h5 (fun _ => R) (fun g2 => absurd ⟨g1, g2⟩ hn))
  unfold wpX_literal
  dsimp only
  refine zd_gX (fun hn => bad fun z => hn z.1) (fun g1 => zd_gVX h5 (fun hn => bad fun z => hn z.2) (fun g2 => ?_))
  obtain ⟨d, hd, rfl⟩ := g1
  obtain ⟨w, hw, rfl⟩ := g2
  refine zd_xliteral hd hm (fun made' => ?_)
  unfold wpY_literal
  dsimp only
  exact zd_gY (fun hn => absurd ⟨d, hd, rfl⟩ hn) (fun _ => zd_gVY h5 (fun hn => absurd ⟨w, hw, rfl⟩ hn) (fun _ => zd_yliteral hd hm (fun res' => ⟨rfl, V, pf, _, made', pv, res', h2, h5, rfl, rfl⟩)))
theorem i_vc_apply {k : Nat} {u : SX} {v : SY} (I : i_Rel k u v) (hk : k + 5 ≤ 2561) (v1 : Int32) (v2 : Int32) (v3 : Int32) (v4 : Int32) : wpX_apply (fun r u' => wpY_apply (fun r' v' => r' = r ∧ i_Rel (k + 5) u' v') v v1 v2 v3 v4) u v1 v2 v3 v4 := by
  obtain ⟨V, pf, vals, made, pv, res, h2, h5, rfl, rfl⟩ := I
  have hm := zd_m V h5
  have bad : ¬ (zd_in 8 v1 ∧ zd_in 7 v2 ∧ zd_in 8 v3 ∧ zd_in 8 v4) → wpY_apply (fun r' v' => r' = 0 ∧ i_Rel (k + 5) (nI V, nI (2 ^ V), pf, vals, made, pv) v') (nI V, nI (2 ^ V), vals, res) v1 v2 v3 v4 := by
    intro hn
    have R : (0 : Int32) = 0 ∧ i_Rel (k + 5) (nI V, nI (2 ^ V), pf, vals, made, pv) (nI V, nI (2 ^ V), vals, res) := ⟨rfl, V, pf, vals, made, pv, res, h2, h5, rfl, rfl⟩
    unfold wpY_apply
    dsimp only
    exact zd_gY (fun _ => R) (fun g1 => zd_gY (fun _ => R) (fun g3 => zd_gY (fun _ => R) (fun g4 => zd_gOZ (fun _ => R) (fun g2 => absurd ⟨g1, g2, g3, g4⟩ hn))))
  unfold wpX_apply
  dsimp only
  refine zd_gX (fun hn => bad fun z => hn z.1) (fun g1 => zd_gOX (fun hn => bad fun z => hn z.2.1) (fun g2 => zd_gX (fun hn => bad fun z => hn z.2.2.1) (fun g3 => zd_gX (fun hn => bad fun z => hn z.2.2.2) (fun g4 => ?_))))
  obtain ⟨d, hd, rfl⟩ := g1
  obtain ⟨o, ho, rfl⟩ := g2
  obtain ⟨a, ha, rfl⟩ := g3
  obtain ⟨b, hb, rfl⟩ := g4
  refine zd_xapply hd ha hb ho hm (fun made' => ?_)
  unfold wpY_apply
  dsimp only
  exact zd_gY (fun hn => absurd ⟨d, hd, rfl⟩ hn) (fun _ => zd_gY (fun hn => absurd ⟨a, ha, rfl⟩ hn) (fun _ => zd_gY (fun hn => absurd ⟨b, hb, rfl⟩ hn) (fun _ => zd_gOZ (fun hn => absurd ⟨o, ho, rfl⟩ hn) (fun _ => zd_yapply hd ha hb ho hm (fun res' => ⟨rfl, V, pf, _, made', pv, res', h2, h5, rfl, rfl⟩)))))
theorem i_vc_choose {k : Nat} {u : SX} {v : SY} (I : i_Rel k u v) (hk : k + 5 ≤ 2561) (v1 : Int32) (v2 : Int32) (v3 : Int32) (v4 : Int32) : wpX_choose (fun r u' => wpY_choose (fun r' v' => r' = r ∧ i_Rel (k + 5) u' v') v v1 v2 v3 v4) u v1 v2 v3 v4 := by
  obtain ⟨V, pf, vals, made, pv, res, h2, h5, rfl, rfl⟩ := I
  have hm := zd_m V h5
  have bad : ¬ (zd_in 8 v1 ∧ zd_in 8 v2 ∧ zd_in 8 v3 ∧ zd_in 8 v4) → wpY_choose (fun r' v' => r' = 0 ∧ i_Rel (k + 5) (nI V, nI (2 ^ V), pf, vals, made, pv) v') (nI V, nI (2 ^ V), vals, res) v1 v2 v3 v4 := by
    intro hn
    have R : (0 : Int32) = 0 ∧ i_Rel (k + 5) (nI V, nI (2 ^ V), pf, vals, made, pv) (nI V, nI (2 ^ V), vals, res) := ⟨rfl, V, pf, vals, made, pv, res, h2, h5, rfl, rfl⟩
    unfold wpY_choose
    dsimp only
    exact zd_gY (fun _ => R) (fun g1 => zd_gY (fun _ => R) (fun g2 => zd_gY (fun _ => R) (fun g3 => zd_gY (fun _ => R) (fun g4 => absurd ⟨g1, g2, g3, g4⟩ hn))))
  unfold wpX_choose
  dsimp only
  refine zd_gX (fun hn => bad fun z => hn z.1) (fun g1 => zd_gX (fun hn => bad fun z => hn z.2.1) (fun g2 => zd_gX (fun hn => bad fun z => hn z.2.2.1) (fun g3 => zd_gX (fun hn => bad fun z => hn z.2.2.2) (fun g4 => ?_))))
  obtain ⟨d, hd, rfl⟩ := g1
  obtain ⟨c, hc, rfl⟩ := g2
  obtain ⟨a, ha, rfl⟩ := g3
  obtain ⟨b, hb, rfl⟩ := g4
  refine zd_xchoose hd hc ha hb hm (fun made' => ?_)
  unfold wpY_choose
  dsimp only
  exact zd_gY (fun hn => absurd ⟨d, hd, rfl⟩ hn) (fun _ => zd_gY (fun hn => absurd ⟨c, hc, rfl⟩ hn) (fun _ => zd_gY (fun hn => absurd ⟨a, ha, rfl⟩ hn) (fun _ => zd_gY (fun hn => absurd ⟨b, hb, rfl⟩ hn) (fun _ => zd_ychoose hd hc ha hb hm (fun res' => ⟨rfl, V, pf, _, made', pv, res', h2, h5, rfl, rfl⟩)))))
theorem i_vc_fold {k : Nat} {u : SX} {v : SY} (I : i_Rel k u v) (hk : k + 5 ≤ 2561) (v1 : Int32) (v2 : Int32) (v3 : Int32) (v4 : Int32) : wpX_fold (fun r u' => wpY_fold (fun r' v' => r' = r ∧ i_Rel (k + 5) u' v') v v1 v2 v3 v4) u v1 v2 v3 v4 := by
  obtain ⟨V, pf, vals, made, pv, res, h2, h5, rfl, rfl⟩ := I
  have bad : ¬ (zd_in 8 v1 ∧ zd_in 7 v2 ∧ zd_in 8 v3 ∧ zd_in V v4) → wpY_fold (fun r' v' => r' = 0 ∧ i_Rel (k + 5) (nI V, nI (2 ^ V), pf, vals, made, pv) v') (nI V, nI (2 ^ V), vals, res) v1 v2 v3 v4 := by
    intro hn
    have R : (0 : Int32) = 0 ∧ i_Rel (k + 5) (nI V, nI (2 ^ V), pf, vals, made, pv) (nI V, nI (2 ^ V), vals, res) := ⟨rfl, V, pf, vals, made, pv, res, h2, h5, rfl, rfl⟩
    unfold wpY_fold
    dsimp only
    exact zd_gY (fun _ => R) (fun g1 => zd_gY (fun _ => R) (fun g3 => zd_gOY (fun _ => R) (fun g2 => zd_gVY h5 (fun _ => R) (fun g4 => absurd ⟨g1, g2, g3, g4⟩ hn))))
  unfold wpX_fold
  dsimp only
  refine zd_gX (fun hn => bad fun z => hn z.1) (fun g1 => zd_gOX (fun hn => bad fun z => hn z.2.1) (fun g2 => zd_gX (fun hn => bad fun z => hn z.2.2.1) (fun g3 => zd_gVX h5 (fun hn => bad fun z => hn z.2.2.2) (fun g4 => ?_))))
  obtain ⟨d, hd, rfl⟩ := g1
  obtain ⟨o, ho, rfl⟩ := g2
  obtain ⟨a, ha, rfl⟩ := g3
  obtain ⟨w, hw, rfl⟩ := g4
  refine nm_e (zd_xfold h5 hd ha ho hw (fun made' => ?_))
  unfold wpY_fold
  dsimp only
  exact zd_gY (fun hn => absurd ⟨d, hd, rfl⟩ hn) (fun _ => zd_gY (fun hn => absurd ⟨a, ha, rfl⟩ hn) (fun _ => zd_gOY (fun hn => absurd ⟨o, ho, rfl⟩ hn) (fun _ => zd_gVY h5 (fun hn => absurd ⟨w, hw, rfl⟩ hn) (fun _ => zd_yfold h5 hd ha ho hw (fun res' => ⟨rfl, V, pf, _, made', pv, res', h2, h5, rfl, rfl⟩)))))
theorem i_vc_substitute {k : Nat} {u : SX} {v : SY} (I : i_Rel k u v) (hk : k + 5 ≤ 2561) (v1 : Int32) (v2 : Int32) (v3 : Int32) (v4 : Int32) : wpX_substitute (fun r u' => wpY_substitute (fun r' v' => r' = r ∧ i_Rel (k + 5) u' v') v v1 v2 v3 v4) u v1 v2 v3 v4 := by
  obtain ⟨V, pf, vals, made, pv, res, h2, h5, rfl, rfl⟩ := I
  have bad : ¬ (zd_in 8 v1 ∧ zd_in 8 v2 ∧ zd_in V v3 ∧ zd_in 8 v4) → wpY_substitute (fun r' v' => r' = 0 ∧ i_Rel (k + 5) (nI V, nI (2 ^ V), pf, vals, made, pv) v') (nI V, nI (2 ^ V), vals, res) v1 v2 v3 v4 := by
    intro hn
    have R : (0 : Int32) = 0 ∧ i_Rel (k + 5) (nI V, nI (2 ^ V), pf, vals, made, pv) (nI V, nI (2 ^ V), vals, res) := ⟨rfl, V, pf, vals, made, pv, res, h2, h5, rfl, rfl⟩
    unfold wpY_substitute
    dsimp only
    exact zd_gY (fun _ => R) (fun g1 => zd_gY (fun _ => R) (fun g2 => zd_gY (fun _ => R) (fun g4 => zd_gVY h5 (fun _ => R) (fun g3 => absurd ⟨g1, g2, g3, g4⟩ hn))))
  unfold wpX_substitute
  dsimp only
  refine zd_gX (fun hn => bad fun z => hn z.1) (fun g1 => zd_gX (fun hn => bad fun z => hn z.2.1) (fun g2 => zd_gVX h5 (fun hn => bad fun z => hn z.2.2.1) (fun g3 => zd_gX (fun hn => bad fun z => hn z.2.2.2) (fun g4 => ?_))))
  obtain ⟨d, hd, rfl⟩ := g1
  obtain ⟨a, ha, rfl⟩ := g2
  obtain ⟨w, hw, rfl⟩ := g3
  obtain ⟨b, hb, rfl⟩ := g4
  refine nm_e (zd_xsubstitute h5 hd ha hb hw (fun made' => ?_))
  unfold wpY_substitute
  dsimp only
  exact zd_gY (fun hn => absurd ⟨d, hd, rfl⟩ hn) (fun _ => zd_gY (fun hn => absurd ⟨a, ha, rfl⟩ hn) (fun _ => zd_gY (fun hn => absurd ⟨b, hb, rfl⟩ hn) (fun _ => zd_gVY h5 (fun hn => absurd ⟨w, hw, rfl⟩ hn) (fun _ => zd_ysubstitute h5 hd ha hb hw (fun res' => ⟨rfl, V, pf, _, made', pv, res', h2, h5, rfl, rfl⟩)))))
theorem i_vc_exchange {k : Nat} {u : SX} {v : SY} (I : i_Rel k u v) (hk : k + 5 ≤ 2561) (v1 : Int32) (v2 : Int32) (v3 : Int32) (v4 : Int32) : wpX_exchange (fun r u' => wpY_exchange (fun r' v' => r' = r ∧ i_Rel (k + 5) u' v') v v1 v2 v3 v4) u v1 v2 v3 v4 := by
  obtain ⟨V, pf, vals, made, pv, res, h2, h5, rfl, rfl⟩ := I
  have bad : ¬ (zd_in 8 v1 ∧ zd_in 8 v2 ∧ zd_in V v3 ∧ zd_in V v4) → wpY_exchange (fun r' v' => r' = 0 ∧ i_Rel (k + 5) (nI V, nI (2 ^ V), pf, vals, made, pv) v') (nI V, nI (2 ^ V), vals, res) v1 v2 v3 v4 := by
    intro hn
    have R : (0 : Int32) = 0 ∧ i_Rel (k + 5) (nI V, nI (2 ^ V), pf, vals, made, pv) (nI V, nI (2 ^ V), vals, res) := ⟨rfl, V, pf, vals, made, pv, res, h2, h5, rfl, rfl⟩
    unfold wpY_exchange
    dsimp only
    exact zd_gY (fun _ => R) (fun g1 => zd_gY (fun _ => R) (fun g2 => zd_gVY h5 (fun _ => R) (fun g3 => zd_gVY h5 (fun _ => R) (fun g4 => absurd ⟨g1, g2, g3, g4⟩ hn))))
  unfold wpX_exchange
  dsimp only
  refine zd_gX (fun hn => bad fun z => hn z.1) (fun g1 => zd_gX (fun hn => bad fun z => hn z.2.1) (fun g2 => zd_gVX h5 (fun hn => bad fun z => hn z.2.2.1) (fun g3 => zd_gVX h5 (fun hn => bad fun z => hn z.2.2.2) (fun g4 => ?_))))
  obtain ⟨d, hd, rfl⟩ := g1
  obtain ⟨a, ha, rfl⟩ := g2
  obtain ⟨w, hw, rfl⟩ := g3
  obtain ⟨x, hx, rfl⟩ := g4
  refine zd_xexchange h5 hd ha hw hx (fun made' => ?_)
  unfold wpY_exchange
  dsimp only
  exact zd_gY (fun hn => absurd ⟨d, hd, rfl⟩ hn) (fun _ => zd_gY (fun hn => absurd ⟨a, ha, rfl⟩ hn) (fun _ => zd_gVY h5 (fun hn => absurd ⟨w, hw, rfl⟩ hn) (fun _ => zd_gVY h5 (fun hn => absurd ⟨x, hx, rfl⟩ hn) (fun _ => zd_yexchange h5 hd ha hw hx (fun res' => ⟨rfl, V, pf, _, made', pv, res', h2, h5, rfl, rfl⟩)))))
end
