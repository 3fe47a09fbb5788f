/-! the readers -/
section
variable {m f g V v : Nat} {fv pf c : Int32} {vals made pv res : Nat → Int32} {post : Int32 → Prop} {posl : Int64 → Prop}
def zd_ct (vals : Nat → Int32) (f : Nat) (c : Int32) : Nat → Int32
  | 0 => 0
  | i + 1 => if vals (32 * f + i) = c then zd_ct vals f c i + 1 else zd_ct vals f c i
theorem zd_xcount (hf : f < 8) (hm : m ≤ 32) (hp : post (zd_ct vals f c m)) : ∃ n, wX_countOf_14 post (nI f) c fv (nI m) pf vals made pv n 0 0 := by
  refine loop_0 (fun n i s => wX_countOf_14 post (nI f) c fv (nI m) pf vals made pv n s (nI i)) (fun i s => s = zd_ct vals f c i) m 0 rfl
    (fun n s hI => br_t (nI_le (Nat.le_refl m) (by omega)) (by subst hI; exact hp))
    (fun n i s hi hI K => br_f (nI_ge hi (by omega)) ⟨zd_v1 (by omega) (by omega), br_c (fun e y ey z ez => ?_) (fun e z ez => ?_)⟩)
  · rw [zd_c1 (by omega)] at e
    rw [ez, nI_1]
    refine K y ?_
    rw [ey, hI]
    exact (if_pos e).symm
  · rw [zd_c1 (by omega)] at e
    rw [ez, nI_1]
    refine K s ?_
    rw [hI]
    exact (if_neg e).symm
theorem zd_ycount (hf : f < 8) (hm : m ≤ 32) (hp : post (zd_ct vals f c m)) : ∃ n, wY_countOf_15 post (nI f) c fv (nI m) vals res n 0 0 := by
  refine loop_0 (fun n i s => wY_countOf_15 post (nI f) c fv (nI m) vals res n s (nI i)) (fun i s => s = zd_ct vals f c i) m 0 rfl
    (fun n s hI => br_t (nI_le (Nat.le_refl m) (by omega)) (by subst hI; exact hp))
    (fun n i s hi hI K => br_f (nI_ge hi (by omega)) ⟨zd_v2 (by omega) (by omega), br_c (fun e y ey z ez => ?_) (fun e z ez => ?_)⟩)
  · rw [zd_c2 (by omega)] at e
    rw [ez, nI_1]
    refine K y ?_
    rw [ey, hI]
    exact (if_pos e).symm
  · rw [zd_c2 (by omega)] at e
    rw [ez, nI_1]
    refine K s ?_
    rw [hI]
    exact (if_neg e).symm
theorem i_vc_countOf {k : Nat} {u : SX} {v : SY} (I : i_Rel k u v) (hk : k + 5 ≤ 2561) (v1 : Int32) (v2 : Int32) : wpX_countOf (fun r => wpY_countOf (fun r' => r' = r ∧ i_Rel (k + 5) u v) v v1 v2) u v1 v2 := by
  have J : i_Rel (k + 5) u v := I
  obtain ⟨V, pf, vals, made, pv, res, h2, h5, rfl, rfl⟩ := I
  have hm := zd_m V h5
  unfold wpX_countOf wpY_countOf
  dsimp only
  refine zd_gX (fun hn => zd_gY (fun _ => ⟨rfl, J⟩) (fun hg => absurd hg hn)) (fun hg => ?_)
  obtain ⟨f, hf, rfl⟩ := hg
  exact zd_xcount hf hm (zd_gY (fun hn => absurd ⟨f, hf, rfl⟩ hn) (fun _ => zd_ycount hf hm ⟨rfl, J⟩))
def zd_tt (vals : Nat → Int32) (f : Nat) : Nat → Int64
  | 0 => 0
  | i + 1 => zd_tt vals f i + (vals (32 * f + i)).toInt64
theorem zd_xtotal (hf : f < 8) (hm : m ≤ 32) (hp : posl (zd_tt vals f m)) : ∃ n, wX_total_14 posl (nI f) fv (nI m) pf vals made pv n 0 0 := by
  refine loop_0 (fun n i s => wX_total_14 posl (nI f) fv (nI m) pf vals made pv n s (nI i)) (fun i s => s = zd_tt vals f i) m 0 rfl
    (fun n s hI => br_t (nI_le (Nat.le_refl m) (by omega)) (by subst hI; exact hp))
    (fun n i s hi hI K => br_f (nI_ge hi (by omega)) ⟨zd_v1 (by omega) (by omega), fun y ey z ez => ?_⟩)
  rw [ez, nI_1]
  refine K y ?_
  rw [ey, hI, zd_c1 (by omega)]
  rfl
theorem zd_ytotal (hf : f < 8) (hm : m ≤ 32) (hp : posl (zd_tt vals f m)) : ∃ n, wY_total_15 posl (nI f) fv (nI m) vals res n 0 0 := by
  refine loop_0 (fun n i s => wY_total_15 posl (nI f) fv (nI m) vals res n s (nI i)) (fun i s => s = zd_tt vals f i) m 0 rfl
    (fun n s hI => br_t (nI_le (Nat.le_refl m) (by omega)) (by subst hI; exact hp))
    (fun n i s hi hI K => br_f (nI_ge hi (by omega)) ⟨zd_v2 (by omega) (by omega), fun y ey z ez => ?_⟩)
  rw [ez, nI_1]
  refine K y ?_
  rw [ey, hI, zd_c2 (by omega)]
  rfl
theorem i_vc_total {k : Nat} {u : SX} {v : SY} (I : i_Rel k u v) (hk : k + 5 ≤ 2561) (v1 : Int32) : wpX_total (fun r => wpY_total (fun r' => r' = r ∧ i_Rel (k + 5) u v) v v1) u v1 := by
  have J : i_Rel (k + 5) u v := I
  obtain ⟨V, pf, vals, made, pv, res, h2, h5, rfl, rfl⟩ := I
  have hm := zd_m V h5
  unfold wpX_total wpY_total
  dsimp only
  refine zd_gX (fun hn => zd_gY (fun _ => ⟨rfl, J⟩) (fun hg => absurd hg hn)) (fun hg => ?_)
  obtain ⟨f, hf, rfl⟩ := hg
  exact zd_xtotal hf hm (zd_gY (fun hn => absurd ⟨f, hf, rfl⟩ hn) (fun _ => zd_ytotal hf hm ⟨rfl, J⟩))
theorem i_vc_valueAt {k : Nat} {u : SX} {v : SY} (I : i_Rel k u v) (hk : k + 5 ≤ 2561) (v1 : Int32) (v2 : Int32) : wpX_valueAt (fun r => wpY_valueAt (fun r' => r' = r ∧ i_Rel (k + 5) u v) v v1 v2) u v1 v2 := by
  have J : i_Rel (k + 5) u v := I
  obtain ⟨V, pf, vals, made, pv, res, h2, h5, rfl, rfl⟩ := I
  have hm := zd_m V h5
  unfold wpX_valueAt wpY_valueAt
  dsimp only
  refine zd_gX (fun hn => zd_gY (fun _ => ⟨rfl, J⟩) (fun hg => absurd hg hn)) (fun hg => ?_)
  obtain ⟨f, hf, rfl⟩ := hg
  have Y : ∀ {A B : Prop}, B → wpY_isPlace (fun r => (r = 0 → A) ∧ (¬ r = 0 → B)) (nI V, nI (2 ^ V), vals, res) (nI f) := fun h => zd_gY (fun hn => absurd ⟨f, hf, rfl⟩ hn) (fun _ => h)
  refine br_c (fun h => Y (br_t h ⟨rfl, J⟩)) (fun h => ?_)
  refine br_c (fun h1 => ?_) (fun h1 => Y (br_f h (br_f h1 ⟨rfl, J⟩)))
  obtain ⟨x, hx, rfl⟩ := nI_of h
  have hx' : x < 2 ^ V := (nI_ltI hx (by omega)).mp h1
  refine ⟨zd_v1 (by omega) (by omega), Y (br_f h (br_t h1 ⟨zd_v2 (by omega) (by omega), ?_, J⟩))⟩
  rw [zd_c1 (by omega), zd_c2 (by omega)]
/-! all equal below m -/
theorem zd_xsame (hf : f < 8) (hg : g < 8) (hm : m ≤ 32) (h1 : (∀ x, x < m → vals (32 * f + x) = vals (32 * g + x)) → post 1) (h0 : ¬ (∀ x, x < m → vals (32 * f + x) = vals (32 * g + x)) → post 0) : ∃ n, wX_same_18 post (nI f) (nI g) fv (nI m) pf vals made pv n 0 := by
  refine loop_0 (fun n i (_ : Unit) => wX_same_18 post (nI f) (nI g) fv (nI m) pf vals made pv n (nI i)) (fun i _ => ∀ x, x < i → vals (32 * f + x) = vals (32 * g + x)) m () lt_0
    (fun n s hI => br_t (nI_le (Nat.le_refl m) (by omega)) (h1 hI))
    (fun n i s hi hI K => br_f (nI_ge hi (by omega)) ⟨zd_v1 (by omega) (by omega), zd_v1 (by omega) (by omega), br_c (fun e z ez => ?_) (fun e => h0 fun z => ?_)⟩)
  · rw [zd_c1 (by omega), zd_c1 (by omega)] at e
    rw [ez, nI_1]
    exact K () (lt_s hI e)
  · rw [zd_c1 (by omega), zd_c1 (by omega)] at e
    exact e (z i hi)
theorem zd_ysame (hf : f < 8) (hg : g < 8) (hm : m ≤ 32) (h1 : (∀ x, x < m → vals (32 * f + x) = vals (32 * g + x)) → post 1) (h0 : ¬ (∀ x, x < m → vals (32 * f + x) = vals (32 * g + x)) → post 0) : ∃ n, wY_same_20 post (nI f) (nI g) fv (nI m) vals res n 0 := by
  refine loop_0 (fun n i (_ : Unit) => wY_same_20 post (nI f) (nI g) fv (nI m) vals res n (nI i)) (fun i _ => ∀ x, x < i → vals (32 * f + x) = vals (32 * g + x)) m () lt_0
    (fun n s hI => br_t (nI_le (Nat.le_refl m) (by omega)) (h1 hI))
    (fun n i s hi hI K => br_f (nI_ge hi (by omega)) ⟨zd_v2 (by omega) (by omega), zd_v2 (by omega) (by omega), br_c (fun e z ez => ?_) (fun e => h0 fun z => ?_)⟩)
  · rw [zd_c2 (by omega), zd_c2 (by omega)] at e
    rw [ez, nI_1]
    exact K () (lt_s hI e)
  · rw [zd_c2 (by omega), zd_c2 (by omega)] at e
    exact e (z i hi)
theorem i_vc_same {k : Nat} {u : SX} {v : SY} (I : i_Rel k u v) (hk : k + 5 ≤ 2561) (v1 : Int32) (v2 : Int32) : wpX_same (fun r => wpY_same (fun r' => r' = r ∧ i_Rel (k + 5) u v) v v1 v2) u v1 v2 := by
  have J : i_Rel (k + 5) u v := I
  obtain ⟨V, pf, vals, made, pv, res, h2, h5, rfl, rfl⟩ := I
  have hm := zd_m V h5
  unfold wpX_same wpY_same
  dsimp only
  refine zd_gX (fun hn => zd_gY (fun _ => ⟨rfl, J⟩) (fun hg => absurd hg hn)) (fun g1 => zd_gX (fun hn => zd_gY (fun _ => ⟨rfl, J⟩) (fun _ => zd_gY (fun _ => ⟨rfl, J⟩) (fun hg => absurd hg hn))) (fun g2 => ?_))
  obtain ⟨f, hf, rfl⟩ := g1
  obtain ⟨g, hg, rfl⟩ := g2
  refine zd_xsame hf hg hm (fun h => ?_) (fun h => ?_)
  · exact zd_gY (fun hn => absurd ⟨f, hf, rfl⟩ hn) (fun _ => zd_gY (fun hn => absurd ⟨g, hg, rfl⟩ hn) (fun _ => zd_ysame hf hg hm (fun _ => ⟨rfl, J⟩) (fun z => absurd h z)))
  · exact zd_gY (fun hn => absurd ⟨f, hf, rfl⟩ hn) (fun _ => zd_gY (fun hn => absurd ⟨g, hg, rfl⟩ hn) (fun _ => zd_ysame hf hg hm (fun z => absurd z h) (fun _ => ⟨rfl, J⟩)))
/-! support -/
def zd_ne (vals : Nat → Int32) (f v : Nat) : Nat → Bool
  | 0 => false
  | i + 1 => zd_ne vals f v i || !decide (vals (32 * f + i) = vals (32 * f + zd_fl i v))
def zd_su (vals : Nat → Int32) (f m : Nat) : Nat → Int32
  | 0 => 0
  | v + 1 => if zd_ne vals f v m = true then zd_su vals f m v ||| ((1 : Int32) <<< (nI v &&& 31)) else zd_su vals f m v
theorem zd_ne_up {v i : Nat} (h : zd_ne vals f v i = true) : ∀ j, zd_ne vals f v (i + j) = true := by
  intro j
  induction j with
  | zero => exact h
  | succ j ih =>
    show (zd_ne vals f v (i + j) || _) = true
    rw [ih]
    rfl
theorem zd_xdep (hV : V < 6) (hf : f < 8) (hv : v < V) (h1 : zd_ne vals f v (2 ^ V) = true → post 1) (h0 : zd_ne vals f v (2 ^ V) = false → post 0) : wpX_dependsOn post (fv, nI (2 ^ V), pf, vals, made, pv) (nI f) (nI v) := by
  have hm := zd_m V hV
  have T := zd_tfl V hV
  generalize 2 ^ V = m at *
  refine loop_0 (fun n i (_ : Unit) => wX_dependsOn_2 post (nI f) (nI v) fv (nI m) pf vals made pv n (nI i)) (fun i _ => zd_ne vals f v i = false) m () rfl
    (fun n s hI => br_t (nI_le (Nat.le_refl m) (by omega)) (h0 hI))
    (fun n i s hi hI K => br_f (nI_ge hi (by omega)) ?_)
  obtain ⟨e1, b1⟩ := T i hi v hv
  rw [e1]
  refine ⟨zd_v1 (by omega) (by omega), zd_v1 (by omega) (by omega), br_c (fun e z ez => ?_) (fun e => h1 ?_)⟩
  · rw [zd_c1 (by omega), zd_c1 (by omega)] at e
    rw [ez, nI_1]
    refine K () ?_
    show (zd_ne vals f v i || _) = false
    rw [hI, decide_eq_true e]
    rfl
  · rw [zd_c1 (by omega), zd_c1 (by omega)] at e
    have h : zd_ne vals f v (i + 1) = true := by
      show (zd_ne vals f v i || _) = true
      rw [decide_eq_false e, Bool.not_false, Bool.or_true]
    have := zd_ne_up h (m - (i + 1))
    rwa [show i + 1 + (m - (i + 1)) = m from by omega] at this
theorem zd_xsupport (hV : V < 6) (hf : f < 8) (hp : post (zd_su vals f (2 ^ V) V)) : ∃ n, wX_support_13 post (nI f) (nI V) (nI (2 ^ V)) pf vals made pv n 0 0 := by
  refine loop_0 (fun n i s => wX_support_13 post (nI f) (nI V) (nI (2 ^ V)) pf vals made pv n s (nI i)) (fun i s => s = zd_su vals f (2 ^ V) i) V 0 rfl
    (fun n s hI => br_t (nI_le (Nat.le_refl V) (by omega)) (by subst hI; exact hp))
    (fun n i s hi hI K => br_f (nI_ge hi (by omega)) (zd_xdep hV hf hi (fun h => zd_1 fun y ey z ez => ?_) (fun h => zd_0 fun z ez => ?_)))
  · rw [ez, nI_1]
    refine K y ?_
    rw [ey, hI]
    exact (if_pos h).symm
  · rw [ez, nI_1]
    refine K s ?_
    rw [hI]
    refine (if_neg ?_).symm
    rw [h]
    decide
theorem zd_or2 (a b : Int32) : (a ||| b) ||| b = a ||| b := by
  rw [Int32.or_assoc, Int32.or_self]
theorem zd_ysup1 (hV : V < 6) (hf : f < 8) (hv : v < V) {s0 : Int32} {J : Int32 → Int32 → Prop} (hp : J (if zd_ne vals f v (2 ^ V) = true then s0 ||| ((1 : Int32) <<< (nI v &&& 31)) else s0) (nI (v + 1))) : ∃ n, wY_support_25 post J (nI f) (nI v) fv (nI (2 ^ V)) vals res n s0 0 := by
  have hm := zd_m V hV
  have T := zd_tfl V hV
  generalize 2 ^ V = m at *
  refine loop_0 (fun n i s => wY_support_25 post J (nI f) (nI v) fv (nI m) vals res n s (nI i)) (fun i s => s = if zd_ne vals f v i = true then s0 ||| ((1 : Int32) <<< (nI v &&& 31)) else s0) m s0 (if_neg (show ¬ (false = true) from by decide)).symm
    (fun n s hI => br_t (nI_le (Nat.le_refl m) (by omega)) (nm_r (nI_1 v) (by subst hI; exact hp)))
    (fun n i s hi hI K => br_f (nI_ge hi (by omega)) ?_)
  obtain ⟨e1, b1⟩ := T i hi v hv
  rw [e1]
  refine ⟨zd_v2 (by omega) (by omega), zd_v2 (by omega) (by omega), br_c (fun e z ez => ?_) (fun e y ey z ez => ?_)⟩
  · rw [zd_c2 (by omega), zd_c2 (by omega)] at e
    rw [ez, nI_1]
    refine K s ?_
    rw [hI]
    have h : zd_ne vals f v (i + 1) = zd_ne vals f v i := by
      show (zd_ne vals f v i || _) = _
      rw [decide_eq_true e, Bool.not_true, Bool.or_false]
    rw [h]
  · rw [zd_c2 (by omega), zd_c2 (by omega)] at e
    rw [ez, nI_1]
    refine K y ?_
    have h : zd_ne vals f v (i + 1) = true := by
      show (zd_ne vals f v i || _) = true
      rw [decide_eq_false e, Bool.not_false, Bool.or_true]
    rw [ey, hI, if_pos h]
    by_cases z : zd_ne vals f v i = true
    · rw [if_pos z, zd_or2]
    · rw [if_neg z]
theorem zd_ysupport (hV : V < 6) (hf : f < 8) (hp : post (zd_su vals f (2 ^ V) V)) : ∃ n, wY_support_14 post (nI f) (nI V) (nI (2 ^ V)) vals res n 0 0 := by
  refine loop_0 (fun n i s => wY_support_14 post (nI f) (nI V) (nI (2 ^ V)) vals res n s (nI i)) (fun i s => s = zd_su vals f (2 ^ V) i) V 0 rfl
    (fun n s hI => br_t (nI_le (Nat.le_refl V) (by omega)) (by subst hI; exact hp))
    (fun n i s hi hI K => br_f (nI_ge hi (by omega)) (zd_ysup1 hV hf hi (K _ ?_)))
  rw [hI]
  rfl
theorem i_vc_support {k : Nat} {u : SX} {v : SY} (I : i_Rel k u v) (hk : k + 5 ≤ 2561) (v1 : Int32) : wpX_support (fun r => wpY_support (fun r' => r' = r ∧ i_Rel (k + 5) u v) v v1) u v1 := by
  have J : i_Rel (k + 5) u v := I
  obtain ⟨V, pf, vals, made, pv, res, h2, h5, rfl, rfl⟩ := I
  unfold wpX_support wpY_support
  dsimp only
  refine zd_gX (fun hn => zd_gY (fun _ => ⟨rfl, J⟩) (fun hg => absurd hg hn)) (fun hg => ?_)
  obtain ⟨f, hf, rfl⟩ := hg
  exact zd_xsupport h5 hf (zd_gY (fun hn => absurd ⟨f, hf, rfl⟩ hn) (fun _ => zd_ysupport h5 hf ⟨rfl, J⟩))
end
