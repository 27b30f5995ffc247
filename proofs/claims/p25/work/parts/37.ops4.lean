/-! ===== the class's cover, by what a program says ===== -/
theorem sumW_cong {W W' : Nat → Int32} (S : Int32) : ∀ {k : Nat}, (∀ i, i < k → W i = W' i) → sumW W S k = sumW W' S k
  | 0, _ => rfl
  | k + 1, h => by rw [sumW, sumW, sumW_cong S (fun i hi => h i (by omega)), h k (by omega)]
theorem unK_cong {B B' : Nat → Int32} (S : Int32) : ∀ {k : Nat}, (∀ i, i < k → B i = B' i) → unK B S k = unK B' S k
  | 0, _ => rfl
  | k + 1, h => by rw [unK, unK, unK_cong S (fun i hi => h i (by omega)), h k (by omega)]
theorem light_cong {F F' : FF} {t : Nat} {kd : Int32} (h0 : ∀ i, i < t → F 0 i = F' 0 i) (h2 : ∀ i, i < t → F 2 i = F' 2 i) : ∀ k, light F t kd k = light F' t kd k
  | 0 => rfl
  | k + 1 => by rw [light, light, light_cong h0 h2 k, sumW_cong _ h2, unK_cong _ h0]
/-- Kills' rows, by what a program says -/
def kF (n : Nat) (p : FF) : FF := fun r i => if r = 0 then bs (kt' p n i) (4 * n) else wgt (p 3 i) (p 4 i)
def kDd (n t : Nat) (p : FF) : Int32 := bs (fun q => (List.range t).any (fun i => kt' p n i q)) (4 * n)
def lS (n t : Nat) (p : FF) : Int32 := (light (kF n p) t (kDd n t p) (2 ^ t)).1
def cwC (n t : Nat) (p : FF) : Int32 := sumW (fun i => wgt (p 3 i) (p 4 i)) (lS n t p) t
theorem any_cong {p q : Nat → Bool} {m : Nat} (h : ∀ k, k < m → p k = q k) : (List.range m).any p = (List.range m).any q := by
  rw [Bool.eq_iff_iff, List.any_eq_true, List.any_eq_true]
  constructor
  · rintro ⟨x, hx, a⟩; exact ⟨x, hx, by rw [← h x (List.mem_range.mp hx)]; exact a⟩
  · rintro ⟨x, hx, a⟩; exact ⟨x, hx, by rw [h x (List.mem_range.mp hx)]; exact a⟩
theorem kDd_ag {n t : Nat} {p q : FF} (h : Agree n t p q) : kDd n t p = kDd n t q := bs_cong (fun m hm => any_cong (fun i hi => ag_kt h hi hm))
theorem lS_ag {n t : Nat} {p q : FF} (h : Agree n t p q) : lS n t p = lS n t q := by
  unfold lS
  rw [kDd_ag h, light_cong (F := kF n p) (F' := kF n q) (fun i hi => bs_cong (fun m hm => ag_kt h hi hm)) (fun i hi => ag_wgt h hi)]
theorem cwC_ag {n t : Nat} {p q : FF} (h : Agree n t p q) : cwC n t p = cwC n t q := by
  unfold cwC
  rw [lS_ag h, sumW_cong _ (fun i hi => ag_wgt h hi)]
section O4
variable {n t : Nat} {f : FF} {v : VV} {post : Int32 → Prop} {posf : Int32 → FF → VV → Prop}
theorem Kf.lgt {p : FF} (h : Kf n t p f v) : (light (sb f 33) t (v 21) (2 ^ t)).1 = lS n t p := by
  unfold lS
  rw [h.2.2.2.2, light_cong (F := sb f 33) (F' := kF n p) h.2.1 h.2.2.1]; rfl
theorem Kf.sW {p : FF} (h : Kf n t p f v) (S : Int32) : sumW (sb f 33 2) S t = sumW (fun i => wgt (p 3 i) (p 4 i)) S t := sumW_cong S h.2.2.1
theorem q_light {p : FF} (h : Kf n t p f v) (hp : post (lS n t p)) : Q_X0_lightestTests (sb f 33) (sb v 19) post := by
  refine q_lightestTests h.1 ?_
  rw [show sb v 19 2 = v 21 from rfl, h.lgt]; exact hp
theorem q_wS {p : FF} {S : Int32} (h : Kf n t p f v) (hp : post (sumW (fun i => wgt (p 3 i) (p 4 i)) S t)) : Q_X0_weightOf S (sb f 33) (sb v 19) post := q_weightOf h.1 (by rw [h.sW]; exact hp)
theorem PI.ag {p q : FF} {a b : VV} (h : PI n t q b) (e0 : a 0 = nI n) (e1 : a 1 = nI t) (hA : Agree n t p q) : PI n t p a := ⟨h.1, h.2.1, e0, e1, fun k hk => by rw [(hA.1 k hk).2.1, (hA.1 k hk).2.2]; exact h.2.2.2.2 k hk⟩
theorem q_trial {pos : FF → VV → Prop} (hP : PI n t (sb f 5) (sb v 11)) (h : ∀ f' v', (∀ j, j < 14 ∨ 23 ≤ j → f' j = f j) → (∀ i, i ≠ 13 → i ≠ 14 → v' i = v i) → PI n t (sb f' 14) (sb v' 13) → Agree n t (sb f' 14) (sb f 5) → pos f' v') :
    Q_X1_becomeLike (jn f 14 9 5) (jn v 13 2 11) (fun f_3 v_4 => (∀ f_5 : FF, f_5 = mg (mg f 14 9 f_3) 5 9 (sb f_3 9) → (∀ v_6 : VV, v_6 = mg (mg v 13 2 v_4) 11 2 (sb v_4 2) → pos f_5 v_6))) := by
  refine q_becomeLike hP.1 hP.2.1 hP.2.2.1 hP.2.2.2.1 (fun f3 v4 hL hr e0 e1 hv f5 ef v6 ev => ?_)
  have r5 : ∀ i, i < 9 → f5 (5 + i) = f (5 + i) := fun i hi => by
    rw [ef, mg_at hi]
    show f3 (9 + i) = _
    rw [hr (9 + i) (by omega), jn_ge (by omega)]
    congr 1; omega
  have r14 : ∀ i, i < 9 → f5 (14 + i) = f3 i := fun i hi => by rw [ef, mg_out (by omega), mg_at hi]
  have hA : Agree n t (sb f5 14) (sb f 5) := by
    have e := fun i hi => (r14 i hi)
    refine ⟨fun k hk => ⟨?_, ?_, ?_⟩, fun j hj => ⟨?_, ?_, ?_, ?_⟩⟩
    · rw [sb_add, r14 0 (by decide)]; exact (hL.1 k hk).1
    · rw [sb_add, r14 1 (by decide)]; exact (hL.1 k hk).2.1
    · rw [sb_add, r14 2 (by decide)]; exact (hL.1 k hk).2.2
    · rw [sb_add, r14 3 (by decide)]; exact (hL.2 j hj).1
    · rw [sb_add, r14 4 (by decide)]; exact (hL.2 j hj).2.1
    · rw [sb_add, r14 5 (by decide)]; exact (hL.2 j hj).2.2.1
    · rw [sb_add, r14 6 (by decide)]; exact (hL.2 j hj).2.2.2
  have w13 : v6 13 = nI n := by rw [ev, mg_out (by omega)]; exact (mg_at (b := 13) (i := 0) (by decide)).trans e0
  have w14 : v6 14 = nI t := by rw [ev, mg_out (by omega)]; exact (mg_at (b := 13) (i := 1) (by decide)).trans e1
  refine h f5 v6 (fun j hj => ?_) (fun i h1 h2 => ?_) (hP.ag w13 w14 hA) hA
  · by_cases hj5 : 5 ≤ j ∧ j < 14
    · have := r5 (j - 5) (by omega)
      rw [show 5 + (j - 5) = j by omega] at this; exact this
    · rw [ef, mg_out (by omega), mg_out (by omega)]
  · rw [ev]
    by_cases hi : 11 ≤ i ∧ i < 11 + 2
    · rw [mg_in hi.1 hi.2]
      show v4 (2 + (i - 11)) = v i
      rw [hv _ (by omega), jn_ge (by omega)]
      congr 1; omega
    · rw [mg_out hi, mg_out (by omega)]
def soC (r : Nat → Int32) (p : FF) (n t c : Nat) : Bool := decide (c = 0) || allEq r (cwC n t p) c
theorem allEq_iff {r : Nat → Int32} {w : Int32} : ∀ {c : Nat}, allEq r w c = true ↔ ∀ i, i < c → r i = w
  | 0 => ⟨fun _ _ h => absurd h (by omega), fun _ => rfl⟩
  | c + 1 => by
    rw [allEq, Bool.and_eq_true, decide_eq_true_iff, allEq_iff]
    constructor
    · rintro ⟨a, b⟩ i hi
      rcases Nat.lt_succ_iff_lt_or_eq.mp hi with hi | rfl
      · exact a i hi
      · exact b
    · intro a; exact ⟨fun i hi => a i (by omega), a c (by omega)⟩
theorem q_ft_loop {w : Int32} {c : Nat} {K0 K1 : Int32 → FF → VV → Prop} (hc : c ≤ 8) (e : v 0 = nI c) (h1 : allEq (f 0) w c = true → ∀ x, K1 x f v) (h0 : allEq (f 0) w c = false → ∀ x, K0 x f v) :
    ∀ (d k : Nat), k + d = c → (∀ i, i < k → f 0 i = w) → Q_X4_fitsReadings_L37 w K0 K1 (d + 1) (nI k) f v := by
  intro d
  induction d with
  | zero =>
    intro k hk ha
    rw [Q_X4_fitsReadings_L37, e, show k = c by omega]
    rw [show k = c by omega] at ha
    exact ⟨fun _ => h1 (allEq_iff.mpr ha) _, fun z => absurd (Int32.le_refl _) z⟩
  | succ d ih =>
    intro k hk ha
    rw [Q_X4_fitsReadings_L37, e, nI_clamp (by omega)]
    refine ⟨fun z => absurd ((le_nI (by omega) (by omega)).mp z) (by omega), fun _ => ⟨vi_nI (by omega) (by omega), fun c1 x ex => ?_, fun c1 => h0 ?_ _⟩⟩
    · rw [ex, nI_1]
      refine ih (k + 1) (by omega) (fun i hi => ?_)
      rcases Nat.lt_succ_iff_lt_or_eq.mp hi with hi | rfl
      · exact ha i hi
      · exact c1
    · cases hb : allEq (f 0) w c with
      | false => rfl
      | true => exact absurd (allEq_iff.mp hb k (by omega)) c1
theorem q_fits {c : Nat} (hP : PI n t (sb f 14) (sb v 13)) (hc : c ≤ 8) (e : v 0 = nI c) (h : ∀ f' v', FB 14 f v f' v' → posf (b2 (soC (f 0) (sb f 14) n t c)) f' v') : Q_X4_fitsReadings f v posf := by
  unfold Q_X4_fitsReadings
  unfold soC at h
  refine ⟨fun c0 => q_findAt (b := 14) (c := 13) (by decide) (by decide) hP (fun f' v' hF hK => q_light hK (q_wS hK ⟨c + 1, ?_⟩)), fun c0 => ?_⟩
  · have hc0 : c ≠ 0 := fun z => c0 (by rw [e, z]; rfl)
    have e' : v' 0 = nI c := (hF.2 0 (by decide)).trans e
    have r0 : f' 0 = f 0 := hF.1 0 (by decide) (by decide) (by decide)
    have := h f' v' hF
    rw [decide_eq_false hc0, Bool.false_or] at this
    refine q_ft_loop hc e' (fun ha _ => ?_) (fun ha _ => ?_) c 0 (by omega) (fun _ h => absurd h (by omega))
    · rw [r0] at ha; unfold cwC at this; rw [ha] at this; exact this
    · rw [r0] at ha; unfold cwC at this; rw [ha] at this; exact this
  · rw [e] at c0
    have hc0 : c = 0 := (nI_eq (a := c) (b := 0) (by omega) (by omega)).mp c0
    have := h f v ⟨fun _ _ _ _ => rfl, fun _ _ => rfl⟩
    rw [decide_eq_true hc0, Bool.true_or] at this
    exact this
/-- the class's worlds while something is tried -/
def TR (f0 : FF) (v0' : VV) (f : FF) (v : VV) : Prop := (∀ j, j < 12 → f j = f0 j) ∧ ∀ i, i < 13 → v i = v0' i
theorem soC_ag {r : Nat → Int32} {p q : FF} {c : Nat} (h : Agree n t p q) : soC r p n t c = soC r q n t c := by unfold soC; rw [cwC_ag h]
end O4
theorem ag_kinds {n t j : Nat} {p q q' : FF} {x : Int32} (h : Agree n t p (fu q 3 (upd (q 3) j x))) (y : Int32) (hr : ∀ i, i < 7 → i ≠ 3 → q' i = p i) (e : q' 3 = upd (p 3) j y) : Agree n t q' (fu q 3 (upd (q 3) j y)) := by
  have z : ∀ i : Nat, i ≠ 3 → ∀ y : Int32, fu q 3 (upd (q 3) j y) i = q i := fun i hi y => fu_ne hi
  have w : ∀ y : Int32, fu q 3 (upd (q 3) j y) 3 = upd (q 3) j y := fun y => fu_eq _ _ _
  have u2 : ∀ {m k : Nat}, (∀ k, k < m → p 3 k = upd (q 3) j x k) → k < m → upd (p 3) j y k = upd (q 3) j y k := fun h1 hk => by
    have := upd_ag (i := j) (x := y) h1 _ hk
    rw [upd_upd] at this; exact this
  unfold Agree Like at h ⊢
  simp only [w, z 0, z 1, z 2, z 3, z 4, z 5, z 6, ne_eq, Nat.reduceEqDiff, not_false_eq_true, hr 0, hr 1, hr 2, hr 3, hr 4, hr 5, hr 6, e, Nat.reduceLT] at h ⊢
  exact ⟨h.1, fun k hk => ⟨u2 (fun k hk => (h.2 k hk).1) hk, (h.2 k hk).2⟩⟩
theorem q_kinds_loop {n t j c : Nat} {K : Int32 → Int32 → FF → VV → Prop} {f0 : FF} {v0' : VV} (hj : j < 7) (hP : PI n t (sb f0 5) (sb v0' 11)) (hc : c ≤ 8) (e : v0' 0 = nI c)
    (hK : ∀ x f v, TR f0 v0' f v → K (bs (fun k => soC (f0 0) (fu (sb f0 5) 3 (upd (f0 8) j (nI k))) n t c) 3) x f v) :
    ∀ (d k : Nat) (f : FF) (v : VV), k + d = 3 → TR f0 v0' f v → v 13 = nI n → v 14 = nI t → (∃ x, Agree n t (sb f 14) (fu (sb f0 5) 3 (upd (f0 8) j x))) → Q_X4_kinds_L28 (nI j) K (d + 1) (bs (fun k => soC (f0 0) (fu (sb f0 5) 3 (upd (f0 8) j (nI k))) n t c) k) (nI k) f v := by
  intro d
  induction d with
  | zero =>
    intro k f v hk hT _ _ _
    rw [Q_X4_kinds_L28, show k = 3 by omega]
    exact ⟨fun _ => hK _ f v hT, fun c => absurd (Int32.le_refl _) c⟩
  | succ d ih =>
    intro k f v hk hT e13 e14 hA
    rw [Q_X4_kinds_L28]
    refine ⟨fun c => absurd ((le_nI (a := 3) (by omega) (by omega)).mp c) (by omega), fun _ => ⟨vi_nI (by omega) (by omega), fun f1 ef1 => ?_⟩⟩
    rw [wrN (by omega)] at ef1
    obtain ⟨x, hx⟩ := hA
    have hA1 : Agree n t (sb f1 14) (fu (sb f0 5) 3 (upd (f0 8) j (nI k))) := ag_kinds hx (nI k) (fun i hi hi2 => by rw [sb_add, ef1, fu_ne (by omega)]; rfl) (by rw [sb_add, ef1, fu_eq]; rfl)
    have hPq : PI n t (fu (sb f0 5) 3 (upd (f0 8) j (nI k))) (sb v0' 11) := hP.rows2 (fu_ne (by decide)) (fu_ne (by decide)) rfl rfl
    have hP1 : PI n t (sb f1 14) (sb v 13) := hPq.ag e13 e14 hA1
    have hT1 : TR f0 v0' f1 v := ⟨fun i hi => by rw [ef1, fu_ne (by omega)]; exact hT.1 i hi, hT.2⟩
    refine q_fits hP1 hc ((hT.2 0 (by decide)).trans e) (fun f2 v2 hF => ?_)
    rw [soC_ag hA1, hT1.1 0 (by decide)]
    have hA2 : ∃ x, Agree n t (sb f2 14) (fu (sb f0 5) 3 (upd (f0 8) j x)) := ⟨nI k, hA1.of (fun r hr => hF.1 (14 + r) (by omega) (by omega) (by omega)) (fun _ _ => rfl)⟩
    have := ih (k + 1) f2 v2 (by omega) ⟨fun i hi => (hF.1 i (by omega) (by omega) (by omega)).trans (hT1.1 i hi), fun i hi => (hF.2 i (by omega)).trans (hT1.2 i hi)⟩ ((hF.2 13 (by decide)).trans e13) ((hF.2 14 (by decide)).trans e14) hA2
    rw [bs] at this
    cases hb : soC (f0 0) (fu (sb f0 5) 3 (upd (f0 8) j (nI k))) n t c with
    | false => exact ⟨fun _ x1 e1 => by rw [e1, nI_1]; rw [hb, if_neg (by decide), or0] at this; exact this, fun c => absurd rfl c⟩
    | true => exact ⟨fun c => absurd c (by decide), fun _ x1 e1 x2 e2 => by rw [e1, e2, nI_1]; rw [hb, if_pos rfl] at this; exact this⟩
theorem op_kinds (p0 : Int32) (f : FF) (v : VV) (g : FF) (u : VV) (h : Rel0 f v g u) : Q_X4_kinds p0 f v (fun r f1 v1 => Q_X5_kinds p0 g u (fun r' g1 u1 => True ∧ Rel0 f1 v1 g1 u1)) := by
  obtain ⟨n, t, P1, P2, P3, P4, P5⟩ := h.2.1
  obtain ⟨c, r1, r2, r3, r4⟩ := h.2.2.1
  have hn := P1.1
  have ht := P1.2.1
  refine q_hasTest P1 (fun k hk ek => yes1' ?_) (fun hk => no0' (q5_kinds P2 r1 r3 (fun j hj ej => absurd ej (hk j hj)) (fun _ => ⟨trivial, h⟩)))
  subst ek
  refine q_trial P1 (fun f' v' hf hv hP hA => ⟨3 + 1, ?_⟩)
  refine q_kinds_loop (by omega) P1 r1 r2 (fun x f2 v2 hT => ?_) 3 0 f' v' (by omega) ⟨fun j hj => hf j (by omega), fun i hi => hv i (by omega) (by omega)⟩ hP.2.2.1 hP.2.2.2.1 ⟨f 8 k, hA.of (fun _ _ => rfl) (fun r hr => by
    by_cases e : r = 3
    · rw [e, fu_eq, upd_id]; rfl
    · rw [fu_ne e])⟩
  exact q5_kinds P2 r1 r3 (fun j hj ej g' hs => ⟨trivial, h.fr hT hs.fe⟩) (fun hne => absurd rfl (hne k hk))
theorem ag_ways {n t j : Nat} {p q q' : FF} {x : Int32} (h : Agree n t p (fu q 0 (upd (q 0) j x))) (y : Int32) (hr : ∀ i, i < 7 → i ≠ 0 → q' i = p i) (e : q' 0 = upd (p 0) j y) : Agree n t q' (fu q 0 (upd (q 0) j y)) := by
  have z : ∀ i : Nat, i ≠ 0 → ∀ y : Int32, fu q 0 (upd (q 0) j y) i = q i := fun i hi y => fu_ne hi
  have w : ∀ y : Int32, fu q 0 (upd (q 0) j y) 0 = upd (q 0) j y := fun y => fu_eq _ _ _
  have u2 : ∀ {m k : Nat}, (∀ k, k < m → p 0 k = upd (q 0) j x k) → k < m → upd (p 0) j y k = upd (q 0) j y k := fun h1 hk => by
    have := upd_ag (i := j) (x := y) h1 _ hk
    rw [upd_upd] at this; exact this
  unfold Agree Like at h ⊢
  simp only [w, z 0, z 1, z 2, z 3, z 4, z 5, z 6, ne_eq, Nat.reduceEqDiff, not_false_eq_true, hr 0, hr 1, hr 2, hr 3, hr 4, hr 5, hr 6, e, Nat.reduceLT] at h ⊢
  exact ⟨fun k hk => ⟨u2 (fun k hk => (h.1 k hk).1) hk, (h.1 k hk).2⟩, h.2⟩
theorem q_ways_loop {n t j c : Nat} {K : Int32 → Int32 → FF → VV → Prop} {f0 : FF} {v0' : VV} (hj : j < 5) (hP : PI n t (sb f0 5) (sb v0' 11)) (hc : c ≤ 8) (e : v0' 0 = nI c)
    (hK : ∀ x f v, TR f0 v0' f v → K (bs (fun k => soC (f0 0) (fu (sb f0 5) 0 (upd (f0 5) j (nI k))) n t c) 5) x f v) :
    ∀ (d k : Nat) (f : FF) (v : VV), k + d = 5 → TR f0 v0' f v → v 13 = nI n → v 14 = nI t → (∃ x, Agree n t (sb f 14) (fu (sb f0 5) 0 (upd (f0 5) j x))) → Q_X4_ways_L28 (nI j) K (d + 1) (bs (fun k => soC (f0 0) (fu (sb f0 5) 0 (upd (f0 5) j (nI k))) n t c) k) (nI k) f v := by
  intro d
  induction d with
  | zero =>
    intro k f v hk hT _ _ _
    rw [Q_X4_ways_L28, show k = 5 by omega]
    exact ⟨fun _ => hK _ f v hT, fun c => absurd (Int32.le_refl _) c⟩
  | succ d ih =>
    intro k f v hk hT e13 e14 hA
    rw [Q_X4_ways_L28]
    refine ⟨fun c => absurd ((le_nI (a := 5) (by omega) (by omega)).mp c) (by omega), fun _ => ⟨vi_nI (by omega) (by omega), fun f1 ef1 => ?_⟩⟩
    rw [wrN (by omega)] at ef1
    obtain ⟨x, hx⟩ := hA
    have hA1 : Agree n t (sb f1 14) (fu (sb f0 5) 0 (upd (f0 5) j (nI k))) := ag_ways hx (nI k) (fun i hi hi2 => by rw [sb_add, ef1, fu_ne (by omega)]; rfl) (by rw [sb_add, ef1, fu_eq]; rfl)
    have hPq : PI n t (fu (sb f0 5) 0 (upd (f0 5) j (nI k))) (sb v0' 11) := hP.rows2 (fu_ne (by decide)) (fu_ne (by decide)) rfl rfl
    have hP1 : PI n t (sb f1 14) (sb v 13) := hPq.ag e13 e14 hA1
    have hT1 : TR f0 v0' f1 v := ⟨fun i hi => by rw [ef1, fu_ne (by omega)]; exact hT.1 i hi, hT.2⟩
    refine q_fits hP1 hc ((hT.2 0 (by decide)).trans e) (fun f2 v2 hF => ?_)
    rw [soC_ag hA1, hT1.1 0 (by decide)]
    have hA2 : ∃ x, Agree n t (sb f2 14) (fu (sb f0 5) 0 (upd (f0 5) j x)) := ⟨nI k, hA1.of (fun r hr => hF.1 (14 + r) (by omega) (by omega) (by omega)) (fun _ _ => rfl)⟩
    have := ih (k + 1) f2 v2 (by omega) ⟨fun i hi => (hF.1 i (by omega) (by omega) (by omega)).trans (hT1.1 i hi), fun i hi => (hF.2 i (by omega)).trans (hT1.2 i hi)⟩ ((hF.2 13 (by decide)).trans e13) ((hF.2 14 (by decide)).trans e14) hA2
    rw [bs] at this
    cases hb : soC (f0 0) (fu (sb f0 5) 0 (upd (f0 5) j (nI k))) n t c with
    | false => exact ⟨fun _ x1 e1 => by rw [e1, nI_1]; rw [hb, if_neg (by decide), or0] at this; exact this, fun c => absurd rfl c⟩
    | true => exact ⟨fun c => absurd c (by decide), fun _ x1 e1 x2 e2 => by rw [e1, e2, nI_1]; rw [hb, if_pos rfl] at this; exact this⟩
theorem op_ways (p0 : Int32) (f : FF) (v : VV) (g : FF) (u : VV) (h : Rel0 f v g u) : Q_X4_ways p0 f v (fun r f1 v1 => Q_X5_ways p0 g u (fun r' g1 u1 => True ∧ Rel0 f1 v1 g1 u1)) := by
  obtain ⟨n, t, P1, P2, P3, P4, P5⟩ := h.2.1
  obtain ⟨c, r1, r2, r3, r4⟩ := h.2.2.1
  have hn := P1.1
  have ht := P1.2.1
  refine q_hasStep P1 (fun k hk ek => yes1' ?_) (fun hk => no0' (q5_ways P2 r1 r3 (fun j hj ej => absurd ej (hk j hj)) (fun _ => ⟨trivial, h⟩)))
  subst ek
  refine q_trial P1 (fun f' v' hf hv hP hA => ⟨5 + 1, ?_⟩)
  refine q_ways_loop (by omega) P1 r1 r2 (fun x f2 v2 hT => ?_) 5 0 f' v' (by omega) ⟨fun j hj => hf j (by omega), fun i hi => hv i (by omega) (by omega)⟩ hP.2.2.1 hP.2.2.2.1 ⟨f 5 k, hA.of (fun _ _ => rfl) (fun r hr => by
    by_cases e : r = 0
    · rw [e, fu_eq, upd_id]; rfl
    · rw [fu_ne e])⟩
  exact q5_ways P2 r1 r3 (fun j hj ej g' hs => ⟨trivial, h.fr hT hs.fe⟩) (fun hne => absurd rfl (hne k hk))
