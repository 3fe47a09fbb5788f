/-! the component's list of different parts -/
section
variable {V m F L N A B x i c f k r b : Nat} {fv pf : Int32} {vals made res pv pw : Nat → Int32} {posr : Int32 → Prop} {post : SX → Prop}
/-- after the names F .. F + i - 1: c rows stand, each is one of their parts, and each of their parts is among them -/
def zd_GI (vals : Nat → Int32) (m F i c : Nat) (pv : Nat → Int32) : Prop :=
  c = zd_cn vals m F i ∧ (∀ r, r < c → ∃ A, F ≤ A ∧ A < F + i ∧ zd_ok m A ∧ ∀ x, x < m → pv (32 * r + x) = zd_P vals A x) ∧
    (∀ A, F ≤ A → A < F + i → zd_ok m A → ∃ r, r < c ∧ ∀ x, x < m → pv (32 * r + x) = zd_P vals A x)
theorem zd_gi0 : zd_GI vals m F 0 0 pv := ⟨rfl, fun r h => absurd h (by omega), fun A a h => absurd h (by omega)⟩
theorem zd_gis (h : zd_GI vals m F i c pv) (ho : ¬ zd_ok m (F + i)) : zd_GI vals m F (i + 1) c pv := by
  obtain ⟨h1, h2, h3⟩ := h
  refine ⟨by rw [zd_cn0 fun z => ho z.1]; exact h1, fun r hr => ?_, fun A a l o => ?_⟩
  · obtain ⟨A, a, l, o, e⟩ := h2 r hr
    exact ⟨A, a, by omega, o, e⟩
  · by_cases hA : A = F + i
    · subst hA
      exact absurd o ho
    · exact h3 A a (by omega) o
theorem zd_gap (h : zd_GI vals m F i c pv) : ∀ j, (∀ t, t < j → ¬ zd_ok m (F + (i + t))) → zd_GI vals m F (i + j) c pv := by
  intro j
  induction j with
  | zero => exact fun _ => h
  | succ j ih => exact fun ho => zd_gis (ih fun t ht => ho t (by omega)) (ho j (by omega))
/-- the candidate's row stands behind the others; it is new there just when its name is new -/
theorem zd_giw (h : zd_GI vals m F i c pv) (hm : m ≤ 32) (ho : zd_ok m (F + i)) :
    ((∀ r, r < c → ¬ ∀ x, x < m → zd_cp pv c m (zd_P vals (F + i)) (32 * r + x) = zd_cp pv c m (zd_P vals (F + i)) (32 * c + x)) → zd_GI vals m F (i + 1) (c + 1) (zd_cp pv c m (zd_P vals (F + i)))) ∧
    ((¬ ∀ r, r < c → ¬ ∀ x, x < m → zd_cp pv c m (zd_P vals (F + i)) (32 * r + x) = zd_cp pv c m (zd_P vals (F + i)) (32 * c + x)) → zd_GI vals m F (i + 1) c (zd_cp pv c m (zd_P vals (F + i)))) := by
  have k1 : ∀ r, r < c → ∀ x, x < m → zd_cp pv c m (zd_P vals (F + i)) (32 * r + x) = pv (32 * r + x) := fun r hr x hx => zd_cpo pv c m _ (by omega) (by omega) hm
  have k2 : ∀ x, x < m → zd_cp pv c m (zd_P vals (F + i)) (32 * c + x) = zd_P vals (F + i) x := fun x hx => zd_cpi pv c m _ hx
  generalize zd_cp pv c m (zd_P vals (F + i)) = pw at k1 k2 ⊢
  obtain ⟨h1, h2, h3⟩ := h
  constructor
  · intro hn
    have hnew : zd_new vals m F (F + i) := by
      intro A a l o he
      obtain ⟨r, hr, e⟩ := h3 A a l o
      exact hn r hr fun x hx => by rw [k1 r hr x hx, k2 x hx, e x hx]; exact he x hx
    refine ⟨by rw [zd_cn1 ho hnew, h1], fun r hr => ?_, fun A a l o => ?_⟩
    · by_cases hc : r = c
      · subst hc
        exact ⟨F + i, by omega, by omega, ho, k2⟩
      · obtain ⟨A, a, l, o, e⟩ := h2 r (by omega)
        exact ⟨A, a, by omega, o, fun x hx => (k1 r (by omega) x hx).trans (e x hx)⟩
    · by_cases hA : A = F + i
      · subst hA
        exact ⟨c, by omega, k2⟩
      · obtain ⟨r, hr, e⟩ := h3 A a (by omega) o
        exact ⟨r, by omega, fun x hx => (k1 r hr x hx).trans (e x hx)⟩
  · intro hn
    have hx : ∃ r, r < c ∧ ∀ x, x < m → pw (32 * r + x) = pw (32 * c + x) := Classical.byContradiction fun z => hn fun r hr e => z ⟨r, hr, e⟩
    obtain ⟨r0, hr0, e0⟩ := hx
    have hold : ¬ zd_new vals m F (F + i) := by
      intro z
      obtain ⟨A, a, l, o, e⟩ := h2 r0 hr0
      exact z A a l o fun x hx => by rw [← e x hx, ← k1 r0 hr0 x hx, e0 x hx, k2 x hx]
    refine ⟨by rw [zd_cn0 fun z => hold z.2]; exact h1, fun r hr => ?_, fun A a l o => ?_⟩
    · obtain ⟨A, a, l, o, e⟩ := h2 r hr
      exact ⟨A, a, by omega, o, fun x hx => (k1 r hr x hx).trans (e x hx)⟩
    · by_cases hA : A = F + i
      · subst hA
        exact ⟨r0, hr0, fun x hx => (e0 x hx).trans (k2 x hx)⟩
      · obtain ⟨r, hr, e⟩ := h3 A a (by omega) o
        exact ⟨r, hr, fun x hx => (k1 r hr x hx).trans (e x hx)⟩
/-! the walks -/
theorem zd_wcand (hV : V < 6) (hf : f < 8) (hk : k < V + 1) (hr : r < 2 ^ k) (hc : c < 504) (hp : post (fv, nI (2 ^ V), nI c, vals, made, zd_cp pv c (2 ^ V) (zd_P vals (64 * f + (2 ^ k + r))))) : wpX_writeCandidate post (fv, nI (2 ^ V), nI c, vals, made, pv) (nI f) (nI k) (nI r) := by
  have hm := zd_m V hV
  obtain ⟨t1, t2, t3⟩ := zd_tkr k (by omega) r hr
  have e1 : (64 * f + (2 ^ k + r)) / 64 = f := by omega
  have e2 : (64 * f + (2 ^ k + r)) % 64 = 2 ^ k + r := by omega
  have P : ∀ x, zd_P vals (64 * f + (2 ^ k + r)) x = vals (32 * f + (x / 2 ^ k * 2 ^ k + r)) := by
    intro x
    unfold zd_P zd_pi
    rw [e1, e2, t1, t2]
  generalize zd_P vals (64 * f + (2 ^ k + r)) = g at hp P
  refine nm_e ?_
  refine loop_0 (fun n i s => wX_writeCandidate_8 post (nI f) (nI r) ((-1 : Int32) <<< (nI k &&& 31)) fv (nI (2 ^ V)) (nI c) n (nI i) vals made s) (fun i s => s = zd_cp pv c i g) (2 ^ V) pv (zd_cp0 _ _ _).symm
    (fun n s hI => br_t (nI_le (Nat.le_refl _) (by omega)) (by subst hI; exact hp))
    (fun n i s hi hI K => br_f (nI_ge hi (by omega)) ?_)
  have hb := zd_txk V hV k hk r hr i hi
  rw [zd_tke k (by omega) i (by omega), zd_tor k (by omega) i (by omega) r hr]
  refine ⟨zd_v1 (by omega) (by omega), zd_v1 (by omega) (by omega), fun a ea y ey => ?_⟩
  rw [ea, ey, nI_1, zd_c1 (by omega), zd_c1 (by omega), ← P i, hI, zd_cps]
  exact K _ rfl
theorem zd_rows (hm : m ≤ 32) (hA : A < 504) (hB : B < 504) (h1 : (∀ x, x < m → pv (32 * A + x) = pv (32 * B + x)) → posr 1) (h0 : ¬ (∀ x, x < m → pv (32 * A + x) = pv (32 * B + x)) → posr 0) : wpX_areRowsEqual posr (fv, nI m, pf, vals, made, pv) (nI A) (nI B) := by
  refine loop_0 (fun n i (_ : Unit) => wX_areRowsEqual_2 posr (nI A) (nI B) fv (nI m) pf vals made pv n (nI i)) (fun i _ => ∀ x, x < i → pv (32 * A + x) = pv (32 * B + x)) m () lt_0
    (fun n s hI => br_t (nI_le (Nat.le_refl m) (by omega)) (h1 hI))
    (fun n i s hi hI K => br_f (nI_ge hi (by omega)) ⟨zd_v1 (by omega) (by omega), zd_v1 (by omega) (by omega), br_c (fun e z ez => ?_) (fun e => h0 fun z => ?_)⟩)
  · rw [zd_c1 (by omega), zd_c1 (by omega)] at e
    rw [ez, nI_1]
    exact K () (lt_s hI e)
  · rw [zd_c1 (by omega), zd_c1 (by omega)] at e
    exact e (z i hi)
theorem zd_cnew (hm : m ≤ 32) (hc : c < 504) (h1 : (∀ r, r < c → ¬ ∀ x, x < m → pv (32 * r + x) = pv (32 * c + x)) → posr 1) (h0 : (¬ ∀ r, r < c → ¬ ∀ x, x < m → pv (32 * r + x) = pv (32 * c + x)) → posr 0) : wpX_isCandidateNew posr (fv, nI m, nI c, vals, made, pv) := by
  exact loop_0 (fun n i (_ : Unit) => wX_isCandidateNew_2 posr fv (nI m) (nI c) vals made pv n (nI i)) (fun i _ => ∀ r, r < i → ¬ ∀ x, x < m → pv (32 * r + x) = pv (32 * c + x)) c () lt_0
    (fun n s hI => br_t (nI_le (Nat.le_refl c) (by omega)) (h1 hI))
    (fun n i s hi hI K => br_f (nI_ge hi (by omega)) (zd_rows hm (by omega) hc (fun e => zd_1 (h0 fun z => z i hi e)) (fun e => zd_0 (nm_r (nI_1 i) (K () (lt_s hI e))))))
theorem zd_gbound (hF : F % 64 = 0) (hb : F + b = 64 * f) (hf : f < 8) {q : Nat} (h1 : 1 ≤ q) (h2 : q < 64) (h : zd_GI vals m F (b + q) c pv) : c < 504 := by
  have := zd_cnb vals m F hF (b + q)
  rw [← h.1] at this
  omega
theorem zd_g12 (hV : V < 6) (hF : F % 64 = 0) (hb : F + b = 64 * f) (hf : f < 8) (hk : k < V + 1) {J : Int32 → Int32 → Int32 → Int32 → (Nat → Int32) → (Nat → Int32) → (Nat → Int32) → Prop} (hI : ∃ c, pf = nI c ∧ zd_GI vals (2 ^ V) F (b + 2 ^ k) c pv) (hJ : ∀ pf' pv', (∃ c, pf' = nI c ∧ zd_GI vals (2 ^ V) F (b + 2 ^ (k + 1)) c pv') → J (nI (k + 1)) (nI V) (nI (2 ^ V)) pf' vals made pv') : ∃ n, wX_gatherParts_12 post J (nI f) (nI k) n 0 (nI V) (nI (2 ^ V)) pf vals made pv := by
  have hm := zd_m V hV
  have hk2 := zd_m k (by omega)
  refine loop_0 (fun n i (s : Int32 × (Nat → Int32)) => wX_gatherParts_12 post J (nI f) (nI k) n (nI i) (nI V) (nI (2 ^ V)) s.1 vals made s.2) (fun i s => ∃ c, s.1 = nI c ∧ zd_GI vals (2 ^ V) F (b + (2 ^ k + i)) c s.2) (2 ^ k) (pf, pv) hI
    (fun n s hI => br_t (by rw [zd_sh k (by omega)]; exact nI_le (Nat.le_refl _) (by omega)) (nm_r (nI_1 k) (hJ _ _ (by rw [Nat.pow_succ, Nat.mul_two]; exact hI))))
    (fun n i s hi hI K => br_f (by rw [zd_sh k (by omega)]; exact nI_ge hi (by omega)) ?_)
  obtain ⟨s1, s2⟩ := s
  obtain ⟨c, hc, G⟩ := hI
  dsimp only at hc G ⊢
  subst hc
  obtain ⟨t1, t2, t3⟩ := zd_tkr k (by omega) i hi
  have t4 := Nat.two_pow_pos k
  have t5 : 2 ^ k ≤ 2 ^ V := Nat.pow_le_pow_right (by decide) (by omega)
  have hc := zd_gbound hF hb hf (by omega) t3 G
  have ho : zd_ok (2 ^ V) (F + (b + (2 ^ k + i))) := by
    constructor
    · omega
    · omega
  have eN : F + (b + (2 ^ k + i)) = 64 * f + (2 ^ k + i) := by omega
  obtain ⟨W1, W0⟩ := zd_giw G hm ho
  rw [eN] at W1 W0
  refine zd_wcand hV hf hk hi hc ?_
  refine zd_cnew hm hc (fun h => zd_1 (nm_r (nI_1 c) (nm_r (nI_1 i) (K (_, _) ⟨c + 1, rfl, W1 h⟩)))) (fun h => zd_0 (nm_r (nI_1 i) (K (_, _) ⟨c, rfl, W0 h⟩)))
theorem zd_gath (hV : V < 6) (hF : F % 64 = 0) (hb : F + b = 64 * f) (hf : f < 8) (hI : ∃ c, pf = nI c ∧ zd_GI vals (2 ^ V) F (b + 1) c pv) (hp : ∀ pf' pv', (∃ c, pf' = nI c ∧ zd_GI vals (2 ^ V) F (b + 2 ^ (V + 1)) c pv') → post (nI V, nI (2 ^ V), pf', vals, made, pv')) : wpX_gatherParts post (nI V, nI (2 ^ V), pf, vals, made, pv) (nI f) := by
  exact loop_0 (fun n i (s : Int32 × (Nat → Int32)) => wX_gatherParts_2 post (nI f) n (nI i) (nI V) (nI (2 ^ V)) s.1 vals made s.2) (fun i s => ∃ c, s.1 = nI c ∧ zd_GI vals (2 ^ V) F (b + 2 ^ i) c s.2) (V + 1) (pf, pv) hI
    (fun n s hI => br_t (nI_lt (by omega) (by omega)) (hp _ _ hI))
    (fun n i s hi hI K => br_f (nI_nlt (by omega) (by omega)) (zd_g12 hV hF hb hf hi hI (fun pf' pv' h => K (pf', pv') h)))
/-- a whole place: from its first name to the next place's -/
theorem zd_place (hV : V < 6) (hF : F % 64 = 0) (hb : F + b = 64 * f) (hf : f < 8) (hI : ∃ c, pf = nI c ∧ zd_GI vals (2 ^ V) F b c pv) (hp : ∀ pf' pv', (∃ c, pf' = nI c ∧ zd_GI vals (2 ^ V) F (b + 64) c pv') → post (nI V, nI (2 ^ V), pf', vals, made, pv')) : wpX_gatherParts post (nI V, nI (2 ^ V), pf, vals, made, pv) (nI f) := by
  have hm := zd_m V hV
  obtain ⟨c, hc, G⟩ := hI
  refine zd_gath hV hF hb hf ⟨c, hc, zd_gis G fun z => ?_⟩ (fun pf' pv' h => hp _ _ ?_)
  · have := z.1
    omega
  · obtain ⟨c', hc', G'⟩ := h
    have e : 2 ^ (V + 1) = 2 * 2 ^ V := by rw [Nat.pow_succ, Nat.mul_comm]
    rw [e] at G'
    have := zd_gap G' (64 - 2 * 2 ^ V) (fun t ht z => by have := z.2; omega)
    rw [show b + 2 * 2 ^ V + (64 - 2 * 2 ^ V) = b + 64 from by omega] at this
    exact ⟨c', hc', this⟩
theorem i_vc_parts {k : Nat} {u : SX} {v : SY} (I : i_Rel k u v) (hk : k + 5 ≤ 2561) (v1 : Int32) : wpX_parts (fun r u' => wpY_parts (fun r' => r' = r ∧ i_Rel (k + 5) u' v) v v1) u v1 := by
  obtain ⟨V, pf, vals, made, pv, res, h2, h5, rfl, rfl⟩ := I
  unfold wpX_parts wpY_parts
  dsimp only
  refine zd_gX (fun hn => zd_gY (fun _ => ⟨rfl, V, pf, vals, made, pv, res, h2, h5, rfl, rfl⟩) (fun hg => absurd hg hn)) (fun hg => ?_)
  obtain ⟨f, hf, rfl⟩ := hg
  refine zd_place (F := 64 * f) (b := 0) h5 (by omega) rfl hf ⟨0, rfl, zd_gi0⟩ (fun pf' pv' h => ?_)
  obtain ⟨c, hc, G⟩ := h
  refine zd_gY (fun hn => absurd ⟨f, hf, rfl⟩ hn) (fun _ => ?_)
  have e1 : (64 : Int32) * nI f = nI (64 * f) := pk_mul 64 f
  have e2 : nI (64 * f) + (64 : Int32) = nI (64 * f + 64) := nI_add (64 * f) 64
  rw [e1, e2]
  refine zd_diff h5 (by omega) ⟨?_, V, pf', vals, made, pv', res, h2, h5, rfl, rfl⟩
  rw [hc, G.1]
theorem i_vc_allParts {k : Nat} {u : SX} {v : SY} (I : i_Rel k u v) (hk : k + 5 ≤ 2561) : wpX_allParts (fun r u' => wpY_allParts (fun r' => r' = r ∧ i_Rel (k + 5) u' v) v) u := by
  obtain ⟨V, pf, vals, made, pv, res, h2, h5, rfl, rfl⟩ := I
  unfold wpX_allParts wpY_allParts
  dsimp only
  refine loop_0 (fun n i (s : Int32 × (Nat → Int32)) => wX_allParts_7 _ n (nI i) (nI V) (nI (2 ^ V)) s.1 vals made s.2) (fun i s => ∃ c, s.1 = nI c ∧ zd_GI vals (2 ^ V) 0 (64 * i) c s.2) 8 (0, pv) ⟨0, rfl, zd_gi0⟩
    (fun n s hI => br_t (by decide) ?_)
    (fun n i s hi hI K => br_f (nI_ge (b := 8) hi (by decide)) ?_)
  · obtain ⟨c, hc, G⟩ := hI
    refine zd_diff (F := 0) (L := 512) h5 (by decide) ⟨?_, V, _, vals, made, _, res, h2, h5, rfl, rfl⟩
    rw [hc, G.1]
  · exact zd_place (F := 0) (b := 64 * i) h5 rfl (by omega) hi hI (fun pf' pv' h => nm_r (nI_1 i) (K (pf', pv') h))
end
