/-! ===== what a settlement leaves ===== -/
def fA (f : gCl → List Int32) (cs : List gCl) : List Int32 := (cs.map f).flatten
theorem fA_a (f : gCl → List Int32) (u v : List gCl) : fA f (u ++ v) = fA f u ++ fA f v := by unfold fA; rw [List.map_append, List.flatten_append]
theorem fA_1 (f : gCl → List Int32) (c : gCl) : fA f [c] = f c := by unfold fA; simp
theorem fA_s (f : gCl → List Int32) {cs : List gCl} {k : Nat} {c : gCl} (h : cs[k]? = some c) : fA f (cs.take (k + 1)) = fA f (cs.take k) ++ f c := by
  rw [List.take_add_one, h, fA_a]
  show _ ++ fA f [c] = _
  rw [fA_1]
theorem fA_x (f : gCl → List Int32) {cs : List gCl} {k : Nat} {c : gCl} (h : cs[k]? = some c) : ∃ R, fA f cs = fA f (cs.take k) ++ (f c ++ R) := by
  refine ⟨fA f (cs.drop (k + 1)), ?_⟩
  rw [← List.append_assoc, ← fA_s f h, ← fA_a, List.take_append_drop]
theorem fA_le (f : gCl → List Int32) (m : Nat) : ∀ cs : List gCl, (∀ c, c ∈ cs → (f c).length ≤ m) → (fA f cs).length ≤ m * cs.length := by
  intro cs
  induction cs with
  | nil => intro _; exact Nat.zero_le _
  | cons c r ih =>
    intro h
    have := ih (fun d hd => h d (List.mem_cons_of_mem _ hd))
    have h1 := h c List.mem_cons_self
    rw [show c :: r = [c] ++ r from rfl, fA_a, fA_1, List.length_append, List.length_append, List.length_singleton, Nat.mul_add, Nat.mul_one]
    omega
theorem fA_eq (f g : gCl → List Int32) : ∀ cs : List gCl, (∀ c, c ∈ cs → (f c).length = (g c).length) → (fA f cs).length = (fA g cs).length := by
  intro cs
  induction cs with
  | nil => intro _; rfl
  | cons c r ih =>
    intro h
    have := ih (fun d hd => h d (List.mem_cons_of_mem _ hd))
    have h1 := h c List.mem_cons_self
    rw [show c :: r = [c] ++ r from rfl, fA_a, fA_a, fA_1, fA_1, List.length_append, List.length_append]
    omega
theorem fA_m (f : gCl → List Int32) {cs : List gCl} {w : Int32} (h : w ∈ fA f cs) : ∃ c, c ∈ cs ∧ w ∈ f c := by
  unfold fA at h
  rw [List.mem_flatten] at h
  obtain ⟨l, hl, hw⟩ := h
  rw [List.mem_map] at hl
  obtain ⟨c, hc, e⟩ := hl
  exact ⟨c, hc, by rw [e]; exact hw⟩
theorem gt_mem {V : List Int32} {w : Int32} : w ∈ V ↔ ∃ x, x < V.length ∧ gtW V x = w := by
  constructor
  · intro h
    obtain ⟨x, hx, e⟩ := List.getElem_of_mem h
    exact ⟨x, hx, by unfold gtW; rw [List.getElem?_eq_getElem hx]; exact e⟩
  · rintro ⟨x, hx, e⟩
    rw [← e]
    exact gtW_mem hx
def ok2 (c : gCl) : Prop := c.1.length = c.2.1.length ∧ 1 ≤ c.1.length ∧ c.1.length ≤ 4 ∧ (∀ w, w ∈ c.1 → 0 ≤ w.toInt ∧ w.toInt < 32) ∧ (∀ g, g ∈ c.2.1 → 1 ≤ g.toInt ∧ g.toInt ≤ 9) ∧ (c.2.2 = [] ∨ rdC 0 c.2.2 = some 1) ∧ ∀ w, w ∈ c.2.2 → gword w
theorem teL_ok {b : Nat → Int32} {n T : Nat} : ∀ m i cs cs', cs.length + m = 8 → i ≤ n → (wA cs).length ≤ i → (∀ c, c ∈ cs → ok2 c) → teL b n T m i cs = .inr cs' → 1 ≤ cs'.length ∧ cs'.length ≤ 8 ∧ (wA cs').length ≤ n ∧ ∀ c, c ∈ cs' → ok2 c := by
  intro m
  induction m with
  | zero =>
    intro i cs cs' _ _ _ _ e
    unfold teL at e
    by_cases o : opT b n i = true
    · rw [if_pos o] at e; exact absurd e (by simp)
    · rw [if_neg o] at e; exact absurd e (by simp)
  | succ m ih =>
    intro i cs cs' hm hi hw hk e
    unfold teL at e
    by_cases o : opT b n i = true
    · rw [if_pos o] at e
      cases eC : clS b n T i with
      | inl g => rw [eC] at e; exact absurd e (by simp)
      | inr q =>
        obtain ⟨⟨k1, k2, k3, k4, k5, k6, k7⟩, k8, k9, k10⟩ := clS_ok (j := q.1) (c := q.2) eC
        have hk' : ∀ c, c ∈ cs ++ [q.2] → ok2 c := fun c hc => by
          rw [List.mem_append, List.mem_singleton] at hc
          rcases hc with hc | hc
          · exact hk c hc
          · rw [hc]; exact ⟨k3, k4, k5, k6, k7, k9, k10⟩
        have hl : (cs ++ [q.2]).length = cs.length + 1 := by rw [List.length_append]; rfl
        have hwl : (wA (cs ++ [q.2])).length ≤ q.1 := by rw [wA_a, List.length_append]; omega
        rw [eC] at e
        dsimp only at e
        by_cases c1 : pkB b n q.1 = -1
        · rw [if_pos c1, Sum.inr.injEq] at e
          rw [← e]
          exact ⟨by omega, by omega, by omega, hk'⟩
        · rw [if_neg c1] at e
          by_cases c2 : pkB b n q.1 = 59
          · have := pkB_lt (b := b) (n := n) (i := q.1) (by rw [c2]; decide)
            rw [if_pos c2] at e
            exact ih (q.1 + 1) _ cs' (by omega) (by omega) (by omega) hk' e
          · rw [if_neg c2] at e; exact absurd e (by simp)
    · rw [if_neg o] at e; exact absurd e (by simp)
theorem gdep_rd {f : Nat → Int32} {i : Nat} {V : List Int32} (hf : ∀ k, k < V.length → f (i + k) = gtW V k) : ∀ m, m ≤ V.length → gdep f i m = rdC 0 (V.take m) := by
  intro m
  induction m with
  | zero => intro _; rfl
  | succ m ih =>
    intro hm
    rw [gtW_take (by omega), rdC_bind, ← ih (by omega)]
    show (gdep f i m).bind _ = _
    congr 1
    funext d
    rw [hf m (by omega), rdC_c]
    rfl
theorem gma_t : ∀ t, t < 32 → gma (nI t) = nI (t % 16) := by decide
/-- the new settlement: the same on both sides -/
theorem iSet1_new {M r : gIt} {P s T : Nat} {cs : List gCl} {j j' n : Nat} {x1 x3 : Int32} {r0 M0 N : gIt} (hn : n ≤ 100) (hx1 : 1 ≤ x1.toInt ∧ x1.toInt ≤ 100000) (hT : T < P) (hx3 : 0 ≤ x3.toInt ∧ x3.toInt ≤ 3) (hrow : ∀ x, 14 + 6 * s ≤ x → x ≤ 19 + 6 * s → M x = r x) (hc : tCS (14 + 6 * s) r0 j cs r) (h8 : r (14 + 6 * s) 8 = nI cs.length) (h5 : r (14 + 6 * s) 5 = x1) (h6 : r (14 + 6 * s) 6 = nI T) (h7 : r (14 + 6 * s) 7 = x3) (hl1 : 1 ≤ cs.length) (hl8 : cs.length ≤ 8) (hwn : (wA cs).length ≤ n) (hok : ∀ c, c ∈ cs → ok2 c) (hu : uS s M0 j' cs N) (h157 : M 157 s = x1) (h158 : M 158 s = nI T) (h159 : M 159 s = x3) (h160 : M 160 s = nI cs.length) (hM : ∀ x, 161 ≤ x → x ≤ 168 → M x = N x) : iSet1 M P s := by
  obtain ⟨⟨-, ⟨w1, w2⟩, ⟨k1, k2⟩, ⟨g1, g2⟩, m1, m2, -, -⟩, te, -⟩ := hc
  obtain ⟨-, -, -, ⟨-, wd⟩, cl, -⟩ := hu
  have e14 := hrow (14 + 6 * s) (by omega) (by omega)
  have e15 := hrow (15 + 6 * s) (by omega) (by omega)
  have e16 := hrow (16 + 6 * s) (by omega) (by omega)
  have e17 := hrow (17 + 6 * s) (by omega) (by omega)
  have e18 := hrow (18 + 6 * s) (by omega) (by omega)
  have e19 := hrow (19 + 6 * s) (by omega) (by omega)
  rw [show 14 + 6 * s + 5 = 19 + 6 * s by omega] at w2
  rw [show 14 + 6 * s + 3 = 17 + 6 * s by omega] at k2
  rw [show 14 + 6 * s + 4 = 18 + 6 * s by omega] at g2
  rw [show 14 + 6 * s + 1 = 15 + 6 * s by omega, show 14 + 6 * s + 2 = 16 + 6 * s by omega] at te
  have kf : kA = fA (fun c => c.1) := rfl
  have gf : gA = fA (fun c => c.2.1) := rfl
  have wf : wA = fA (fun c => c.2.2) := rfl
  have tkm : ∀ {k c}, c ∈ cs.take k → c ∈ cs := fun {k c} h => List.mem_of_mem_take h
  have kle : ∀ k, k ≤ cs.length → (kA (cs.take k)).length ≤ 4 * k := fun k hk => by
    have := fA_le (fun c => c.1) 4 (cs.take k) (fun c hc => (hok c (tkm hc)).2.2.1)
    rw [List.length_take, Nat.min_eq_left hk] at this
    exact this
  have wle : ∀ k, (wA (cs.take k)).length ≤ n := fun k => by
    have : wA cs = wA (cs.take k) ++ wA (cs.drop k) := by rw [wf, ← fA_a, List.take_append_drop]
    rw [this, List.length_append] at hwn
    omega
  have kE : ∀ k, k ≤ cs.length → gEnd (r (15 + 6 * s)) k = (kA (cs.take k)).length := fun k hk => by
    unfold gEnd
    by_cases c : k = 0
    · rw [if_pos c, c]; rfl
    · have := kle k hk
      rw [if_neg c, (te (k - 1) (by omega)).1, show k - 1 + 1 = k by omega, nI_clamp (by omega)]
  have wE : ∀ k, k ≤ cs.length → gEnd (r (16 + 6 * s)) k = (wA (cs.take k)).length := fun k hk => by
    unfold gEnd
    by_cases c : k = 0
    · rw [if_pos c, c]; rfl
    · have := wle k
      rw [if_neg c, (te (k - 1) (by omega)).2, show k - 1 + 1 = k by omega, nI_clamp (by omega)]
  have tk : cs.take cs.length = cs := List.take_length
  unfold iSet1
  rw [e14, e15, e16, e17, e18, e19, h157, h158, h159, h160, h5, h6, h7, h8, hM 161 (by omega) (by omega), hM 162 (by omega) (by omega), hM 163 (by omega) (by omega), hM 164 (by omega) (by omega), hM 165 (by omega) (by omega), hM 166 (by omega) (by omega), hM 167 (by omega) (by omega), hM 168 (by omega) (by omega)]
  refine ⟨⟨rfl, hx1⟩, ⟨rfl, T, hT, rfl⟩, ⟨rfl, hx3⟩, cs.length, hl1, hl8, rfl, rfl, fun k hk => ?_, fun i hi => ?_, fun o ho => ?_, fun o ho => ?_⟩
  · obtain ⟨c, ec, -, ⟨c1, c2⟩, c3, c4⟩ := cl k hk
    have hcm : c ∈ cs := List.mem_of_getElem? ec
    obtain ⟨o1, o2, o3, o4, o5, o6, o7⟩ := hok c hcm
    have kl := kle k (by omega)
    rw [kE k (by omega), wE k (by omega)]
    have ks1 : (kA (cs.take (k + 1))).length = (kA (cs.take k)).length + c.1.length := by rw [kf, fA_s _ ec, List.length_append]
    have ws1 : (wA (cs.take (k + 1))).length = (wA (cs.take k)).length + c.2.2.length := by rw [wf, fA_s _ ec, List.length_append]
    refine ⟨⟨c.1.length, o2, o3, c1, by rw [(te k hk).1, ks1], by omega, fun x hx => ?_⟩, ⟨c.2.2.length, c3, by rw [c4, ws1], by rw [(te k hk).2, ws1], by have := wle (k + 1); omega, ?_⟩⟩
    · obtain ⟨d1, d2, d3⟩ := c2 x hx
      obtain ⟨R, eR⟩ := fA_x (fun c => c.1) ec
      obtain ⟨R2, eR2⟩ := fA_x (fun c => c.2.1) ec
      have lk : (kA (cs.take k)).length = (gA (cs.take k)).length := fA_eq _ _ _ (fun c hc => (hok c (tkm hc)).1)
      have kv : r (17 + 6 * s) ((kA (cs.take k)).length + x) = gtW c.1 x := by
        rw [k2 _ (by rw [kf, eR, List.length_append, List.length_append]; omega), kf, eR, gtW_ap, gtW_l hx]
      have gv : r (18 + 6 * s) ((kA (cs.take k)).length + x) = gtW c.2.1 x := by
        rw [g2 _ (by rw [lk, gf, eR2, List.length_append, List.length_append]; omega), lk, gf, eR2, gtW_ap, gtW_l (by omega)]
      have hw := o4 _ (gtW_mem hx)
      have hg := o5 _ (gtW_mem (V := c.2.1) (m := x) (by omega))
      obtain ⟨t, -, et, tt⟩ := i_of hw.1
      have ht : t < 32 := by omega
      refine ⟨t, ht, by rw [kv, et], ?_, ?_, by rw [gv]; exact d3, by rw [gv]; exact hg.1, by rw [gv]; exact hg.2⟩
      · rw [d1, tt]
        by_cases q : 16 ≤ t
        · rw [if_pos q, if_pos (by omega)]
        · rw [if_neg q, if_neg (by omega)]
      · rw [d2, et, gma_t t ht]
    · rcases o6 with q | q
      · exact Or.inl (by rw [q]; rfl)
      · refine Or.inr ?_
        obtain ⟨R, eR⟩ := fA_x (fun c => c.2.2) ec
        rw [gdep_rd (V := c.2.2) (fun x hx => ?_) c.2.2.length (Nat.le_refl _), List.take_length]
        · exact q
        · rw [w2 _ (by rw [wf, eR, List.length_append, List.length_append]; omega), wf, eR, gtW_ap, gtW_l hx]
  · rw [wE _ (Nat.le_refl _), tk] at hi
    have hw := gtW_mem hi
    obtain ⟨c, hcm, hwc⟩ := fA_m (fun c => c.2.2) (show gtW (wA cs) i ∈ fA (fun c => c.2.2) cs from hw)
    rw [w2 i hi]
    exact ⟨(hok c hcm).2.2.2.2.2.2 _ hwc, (wd i hi).1, (wd i hi).2⟩
  · rw [m1 o ho, kE _ (Nat.le_refl _), wE _ (Nat.le_refl _), tk, Nat.zero_add, gt_mem, gt_mem]
    constructor
    · rintro (⟨x, hx, e⟩ | ⟨x, hx, e⟩ | h)
      · exact Or.inl ⟨x, hx, by rw [k2 x hx]; exact e⟩
      · exact Or.inr ⟨x, hx, by rw [w2 x hx]; exact e⟩
      · exact absurd h (by simp)
    · rintro (⟨x, hx, e⟩ | ⟨x, hx, e⟩)
      · exact Or.inl ⟨x, hx, by rw [← k2 x hx]; exact e⟩
      · exact Or.inr (Or.inl ⟨x, hx, by rw [← w2 x hx]; exact e⟩)
  · rw [m2 o ho, kE _ (Nat.le_refl _), wE _ (Nat.le_refl _), tk, gt_mem, gt_mem]
    constructor
    · rintro (⟨x, hx, e⟩ | ⟨x, hx, e⟩ | h)
      · exact Or.inl ⟨x, hx, by rw [k2 x hx]; exact e⟩
      · exact Or.inr ⟨x, hx, by rw [w2 x hx]; exact e⟩
      · exact absurd h (by simp)
    · rintro (⟨x, hx, e⟩ | ⟨x, hx, e⟩)
      · exact Or.inl ⟨x, hx, by rw [← k2 x hx]; exact e⟩
      · exact Or.inr (Or.inl ⟨x, hx, by rw [← w2 x hx]; exact e⟩)
/-- an old settlement, by its cells -/
theorem iSet1_x {I I' : gIt} {P s ns : Nat} (hs : s < ns) (hr : ∀ x, 14 + 6 * s ≤ x → x ≤ 19 + 6 * s → I' x = I x) (h1 : ∀ k, k < ns → I' 157 k = I 157 k ∧ I' 158 k = I 158 k ∧ I' 159 k = I 159 k ∧ I' 160 k = I 160 k) (h2 : ∀ k, k < 8 * ns → I' 161 k = I 161 k ∧ I' 162 k = I 162 k ∧ I' 163 k = I 163 k) (h3 : ∀ k, k < 32 * ns → I' 164 k = I 164 k ∧ I' 165 k = I 165 k ∧ I' 166 k = I 166 k) (h4 : ∀ k, k < 100 * ns → I' 167 k = I 167 k ∧ I' 168 k = I 168 k) (q : iSet1 I P s) : iSet1 I' P s := by
  obtain ⟨a1, a2, a3, a4⟩ := h1 s hs
  unfold iSet1 at q ⊢
  rw [hr (14 + 6 * s) (by omega) (by omega), hr (15 + 6 * s) (by omega) (by omega), hr (16 + 6 * s) (by omega) (by omega), hr (17 + 6 * s) (by omega) (by omega), hr (18 + 6 * s) (by omega) (by omega), hr (19 + 6 * s) (by omega) (by omega), a1, a2, a3, a4]
  obtain ⟨q1, q2, q3, C, c1, c2, c3, c4, c5, c6, c7⟩ := q
  refine ⟨q1, q2, q3, C, c1, c2, c3, c4, fun k hk => ?_, fun i hi => ?_, c7⟩
  · obtain ⟨⟨m, m1, m2, m3, m4, m5, m6⟩, ⟨p, p1, p2, p3⟩⟩ := c5 k hk
    obtain ⟨b1, b2, b3⟩ := h2 (8 * s + k) (by omega)
    refine ⟨⟨m, m1, m2, by rw [b1]; exact m3, m4, m5, fun x hx => ?_⟩, ⟨p, by rw [b2]; exact p1, by rw [b3]; exact p2, p3⟩⟩
    obtain ⟨d1, d2, d3⟩ := h3 (4 * (8 * s + k) + x) (by omega)
    rw [d1, d2, d3]
    exact m6 x hx
  · have hi2 : i < 100 := by
      obtain ⟨-, ⟨p, p1, p2, p3, p4, -⟩⟩ := c5 (C - 1) (by omega)
      have : gEnd (I (16 + 6 * s)) C = gEnd (I (16 + 6 * s)) (C - 1) + p := by
        conv => lhs; unfold gEnd
        rw [if_neg (by omega), p3, nI_clamp (by omega)]
      omega
    obtain ⟨b1, b2⟩ := h4 (100 * s + i) (by omega)
    rw [b1, b2]
    exact c6 i hi
theorem iSal1_x {I I' : gIt} {P ns ns' i : Nat} (h : ∀ x, (5 ≤ x ∧ x ≤ 6) ∨ (85 ≤ x ∧ x ≤ 94) ∨ (174 ≤ x ∧ x ≤ 183) → I' x = I x) (hr : ∀ s, s < ns → I' (14 + 6 * s) = I (14 + 6 * s)) (hy : I' 0 14 = I 0 14) (hn : ns ≤ ns') (q : iSal1 I P ns i) : iSal1 I' P ns' i := by
  unfold iSal1 at q ⊢
  rw [h 174 (by omega), h 175 (by omega), h 176 (by omega), h 177 (by omega), h 178 (by omega), h 179 (by omega), h 180 (by omega), h 181 (by omega), h 182 (by omega), h 183 (by omega), h 85 (by omega), h 86 (by omega), h 87 (by omega), h 88 (by omega), h 89 (by omega), h 90 (by omega), h 91 (by omega), h 92 (by omega), h 93 (by omega), h 94 (by omega), h 5 (by omega), h 6 (by omega), hy]
  obtain ⟨a1, a2, a3, a4, a5, a6, a7, a8, a9, a10, s, hs, e, hk⟩ := q
  exact ⟨a1, a2, a3, a4, a5, a6, a7, a8, a9, a10, s, by omega, e, fun k hk' => by rw [hr s hs]; exact hk k hk'⟩
/-- all but the new settlement -/
def sKp (I M : gIt) (ns : Nat) : Prop := (∀ x, x ≠ 0 → x ≠ 11 → x ≠ 149 → (x < 14 + 6 * ns ∨ 19 + 6 * ns < x) → (x < 157 ∨ 169 < x) → M x = I x) ∧ (∀ j, j ≠ 13 → M 0 j = I 0 j) ∧ (M 11 1 = 0 ∧ M 149 1 = 0) ∧ (∀ j, j ≠ 1 → j ≠ 4 → (j < 28 ∨ 35 < j) → M 149 j = I 149 j) ∧ (∀ k, k < ns → M 157 k = I 157 k ∧ M 158 k = I 158 k ∧ M 159 k = I 159 k ∧ M 160 k = I 160 k) ∧ (∀ k, k < 8 * ns → M 161 k = I 161 k ∧ M 162 k = I 162 k ∧ M 163 k = I 163 k) ∧ (∀ k, k < 32 * ns → M 164 k = I 164 k ∧ M 165 k = I 165 k ∧ M 166 k = I 166 k) ∧ ∀ k, k < 100 * ns → M 167 k = I 167 k ∧ M 168 k = I 168 k
theorem inv_set {I M : gIt} {w : Bool} {P ns nS nC nP nT ns' : Nat} (hs : iScal I P ns nS nC nP nT) (hr : iRest I w P ns nS nC nP nT) (hn9 : ns < 10) (hk : sKp I M ns) (h13 : M 0 13 = nI ns') (h4 : M 149 4 = nI ns') (hle : ns ≤ ns') (hle2 : ns' ≤ 10) (hnew : ∀ s, ns ≤ s → s < ns' → iSet1 M P s) (J : gJt) : gInv M J w := by
  obtain ⟨k1, k2, ⟨k3, k4⟩, k5, k6, k7, k8, k9⟩ := hk
  obtain ⟨⟨y1, y2, y3⟩, ⟨b1, b1', b1''⟩, -, ⟨b3, b3', b3''⟩, ⟨b4, b4', b4''⟩, ⟨b5, b5', b5''⟩, -, ⟨b7, b7'⟩, ⟨b8, b8'⟩⟩ := hs
  obtain ⟨r1, r2, r3, r4, r5, r6, r7, r8, r9⟩ := hr
  have e : ∀ x, (1 ≤ x ∧ x ≤ 10) ∨ x = 12 ∨ x = 13 ∨ (74 ≤ x ∧ x ≤ 148) ∨ (150 ≤ x ∧ x ≤ 156) ∨ 170 ≤ x → M x = I x := fun x hx => k1 x (by omega) (by omega) (by omega) (by omega) (by omega)
  have er : ∀ s, s < ns → ∀ x, 14 + 6 * s ≤ x → x ≤ 19 + 6 * s → M x = I x := fun s hs x h1 h2 => k1 x (by omega) (by omega) (by omega) (by omega) (by omega)
  have c : ∀ j, (2 ≤ j ∧ j ≤ 9 ∧ j ≠ 4) ∨ 36 ≤ j → M 149 j = I 149 j := fun j hj => k5 j (by omega) (by omega) (by omega)
  have y14 : M 0 14 = I 0 14 := k2 14 (by decide)
  refine ⟨P, ns', nS, nC, nP, 0, ⟨⟨by rw [c 2 (by omega), y14]; exact y1, by rw [y14]; exact y2, by rw [y14]; exact y3⟩, ⟨by rw [e 1 (by omega)]; exact b1, by rw [c 3 (by omega)]; exact b1', b1''⟩, ⟨h13, h4, hle2⟩, ⟨by rw [e 84 (by omega)]; exact b3, by rw [c 5 (by omega)]; exact b3', b3''⟩, ⟨by rw [e 95 (by omega)]; exact b4, by rw [c 6 (by omega)]; exact b4', b4''⟩, ⟨by rw [e 1 (by omega)]; exact b5, by rw [c 7 (by omega)]; exact b5', b5''⟩, ⟨k3, k4, by omega, rfl⟩, ⟨by rw [c 8 (by omega), e 9 (by omega)]; exact b7, by rw [e 9 (by omega)]; exact b7'⟩, ⟨by rw [c 9 (by omega), k2 15 (by decide)]; exact b8, by rw [k2 15 (by decide)]; exact b8'⟩⟩, fun o ho => iPer1_c (fun x hx => e x (by omega)) (by rw [y14]; exact Int.le_refl _) (r1 o ho), fun k i hk hi => iTab1_c (e 10 (by omega)) (e 156 (by omega)) (r2 k i hk hi), fun j hj => absurd hj (Nat.not_lt_zero j), fun i hi => iSal1_x (fun x hx => e x (by omega)) (fun s hs => er s hs _ (by omega) (by omega)) y14 hle (r4 i hi), fun i hi => iChg1_c (fun x hx => e x (by omega)) (Nat.le_refl _) hle (r5 i hi), fun k hk => ?_, fun o ho => iPap1_c (e 7 (by omega)) (e 8 (by omega)) (e 192 (by omega)) (e 193 (by omega)) (r7 o ho), fun s hs => ?_, ?_⟩
  · rw [e 192 (by omega), e 193 (by omega)]
    exact r6 k hk
  · by_cases q : s < ns
    · exact iSet1_x q (er s q) k6 k7 k8 k9 (r8 s q)
    · exact hnew s (by omega) hs
  · have h12 : M 0 12 = I 0 12 := k2 12 (by decide)
    refine ⟨by rw [c 59 (by omega), h12]; exact r9.1, ?_⟩
    rw [h12]
    have hg := gact_or w
    rcases r9.2 with q | ⟨q, q2⟩
    · exact Or.inl q
    · exact Or.inr ⟨q, iAct1_c (e _ (by omega)) (e _ (by omega)) (e 189 (by omega)) (e 190 (by omega)) (c 60 (by omega)) q2⟩
