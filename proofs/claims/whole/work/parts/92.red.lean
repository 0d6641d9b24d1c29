/-! ===== the class: an act's sides as polynomials of the price ===== -/
def vlA (g0 g1 g2 g3 : Int64) (p : Int64) (c : Int32) : Int64 := if c = -1 then p else if 0 ≤ c then Int32.toInt64 c else if c = -2 then g0 else if c = -3 then g1 else if c = -4 then g2 else g3
theorem vlA_v (g0 g1 g2 g3 : Int64) : ∀ p p' c, ¬ c = -1 → vlA g0 g1 g2 g3 p c = vlA g0 g1 g2 g3 p' c := fun p p' c h => by unfold vlA; rw [if_neg h, if_neg h]
theorem vlA_p (g0 g1 g2 g3 : Int64) : ∀ p, vlA g0 g1 g2 g3 p (-1) = p := fun p => by unfold vlA; rw [if_pos rfl]
def gvn (J : gJt) (a : Nat) (g0 g1 g2 g3 : Int64) : Prop := J (a + 2) 0 = g0 ∧ J (a + 2) 1 = g1 ∧ J (a + 2) 2 = g2 ∧ J (a + 2) 3 = g3
def cJ (J : gJt) (a : Nat) : List gPl → Prop
  | [] => True
  | q :: r => (∀ i, i < 32 → J (a + 4 + r.length) i = q.1 i) ∧ cJ J a r
theorem cJ_fr {J J' : gJt} {a : Nat} : ∀ {ps : List gPl}, (∀ x, a + 4 ≤ x → x < a + 4 + ps.length → J' x = J x) → cJ J a ps → cJ J' a ps := by
  intro ps
  induction ps with
  | nil => intro _ _; exact trivial
  | cons q r ih =>
    intro h hc
    rw [List.length_cons] at h
    refine ⟨fun i hi => ?_, ih (fun x h1 h2 => h x h1 (by omega)) hc.2⟩
    rw [h _ (by omega) (by omega)]
    exact hc.1 i hi
theorem gu2_2 {α : Type} (f : Nat → Nat → α) (a j : Nat) (u v : α) : gu2 (gu2 f a j u) a j v = gu2 f a j v := by
  funext x y
  unfold gu2
  by_cases c : x = a ∧ y = j
  · rw [if_pos c, if_pos c]
  · rw [if_neg c, if_neg c, if_neg c]
theorem gu_rJ {f : gJt} {a j : Nat} {v : Int64} {x : Nat} (h : x ≠ a) : gu2 f a j v x = f x := gu2_ne h
theorem i0c : ((0 : Int32)).toNatClampNeg = 0 := rfl
theorem i1c : ((1 : Int32)).toNatClampNeg = 1 := rfl
/-- pushing a word -/
theorem x0_push {I : gIt} {J : gJt} {a h : Nat} {g0 g1 g2 g3 : Int64} (h8 : I a 8 = nI h) (hh : h < 16) (hg : gvn J a g0 g1 g2 g3) {c : Int32} (hc : -5 ≤ c.toInt) : ∃ J', p_X0_push I J a c = some (gu2 I a 8 (nI (h + 1)), J') ∧ (∀ x, x ≠ a + 4 + h → J' x = J x) ∧ ∀ i, i < 32 → J' (a + 4 + h) i = (if c = -1 then (if i = 1 then 1 else 0) else if i = 0 then vlA g0 g1 g2 g3 0 c else 0) := by
  have key : ∀ (d f k : Nat) (J1 : gJt), k + d = 32 → d < f → (∀ x, x ≠ a + 4 + h → J1 x = J x) → (∀ i, i < k → J1 (a + 4 + h) i = 0) → ∃ J', p_X0_push_29 I a c (a + 4 + h) f J1 (nI k) = some (gu2 I a 8 (nI (h + 1)), J') ∧ (∀ x, x ≠ a + 4 + h → J' x = J x) ∧ ∀ i, i < 32 → J' (a + 4 + h) i = (if c = -1 then (if i = 1 then 1 else 0) else if i = 0 then vlA g0 g1 g2 g3 0 c else 0) := by
    intro d
    induction d with
    | zero =>
      intro f k J1 hk hf hx h0
      obtain ⟨f, rfl⟩ : ∃ q, f = q + 1 := ⟨f - 1, by omega⟩
      have : k = 32 := by omega
      subst this
      have eg : J1 (a + 2) = J (a + 2) := hx _ (by omega)
      unfold p_X0_push_29
      rw [if_pos (show (32 : Int32) ≤ nI 32 by decide)]
      by_cases c1 : c = -1
      · rw [if_pos c1, gck_t (by decide), gL_b, gB_v, h8, nI_1, gL_b, gL_b, i1c]
        dsimp only
        refine ⟨_, rfl, fun x hx' => by rw [gu_rJ hx']; exact hx x hx', fun i hi => ?_⟩
        rw [gu_sl, if_pos c1]
        by_cases e : i = 1
        · rw [if_pos e, if_pos e]
        · rw [if_neg e, if_neg e]; exact h0 i hi
      · rw [if_neg c1]
        by_cases c0 : c < 0
        · have c0' : c.toInt < 0 := by rw [Int32.lt_iff_toInt_lt] at c0; exact c0
          have n0 : ¬ 0 ≤ c := by rw [Int32.le_iff_toInt_le]; simp only [Int32.reduceToInt]; omega
          have n1 : ¬ c.toInt = -1 := fun q => c1 (Int32.toInt_inj.mp q)
          have ev : ∃ m, m < 4 ∧ (-2 : Int32) - c = nI m ∧ J (a + 2) m = vlA g0 g1 g2 g3 0 c := by
            unfold vlA
            rw [if_neg c1, if_neg n0]
            by_cases e2 : c = -2
            · exact ⟨0, by omega, by rw [e2]; decide, by rw [if_pos e2]; exact hg.1⟩
            · rw [if_neg e2]
              by_cases e3 : c = -3
              · exact ⟨1, by omega, by rw [e3]; decide, by rw [if_pos e3]; exact hg.2.1⟩
              · rw [if_neg e3]
                by_cases e4 : c = -4
                · exact ⟨2, by omega, by rw [e4]; decide, by rw [if_pos e4]; exact hg.2.2.1⟩
                · rw [if_neg e4]
                  have e5 : c = -5 := by
                    have q2 : ¬ c.toInt = -2 := fun q => e2 (Int32.toInt_inj.mp q)
                    have q3 : ¬ c.toInt = -3 := fun q => e3 (Int32.toInt_inj.mp q)
                    have q4 : ¬ c.toInt = -4 := fun q => e4 (Int32.toInt_inj.mp q)
                    apply Int32.toInt_inj.mp
                    show c.toInt = -5
                    omega
                  exact ⟨3, by omega, by rw [e5]; decide, hg.2.2.2⟩
          obtain ⟨m, hm, em, evm⟩ := ev
          rw [if_pos c0, gL_b, em, if_neg (nI_pos (by omega)), if_neg (nI_ge (by omega) (by omega)), gck_t (gin_nI (by omega) (by omega)), gB_v, gck_t (by decide), gL_b, gB_v, h8, nI_1, gL_b, gL_b, i0c, nI_clamp (by omega), eg, evm]
          dsimp only
          refine ⟨_, rfl, fun x hx' => by rw [gu_rJ hx']; exact hx x hx', fun i hi => ?_⟩
          rw [gu_sl, if_neg c1]
          by_cases e : i = 0
          · rw [if_pos e, if_pos e]
          · rw [if_neg e, if_neg e]; exact h0 i hi
        · have n0 : 0 ≤ c := by rw [Int32.le_iff_toInt_le]; rw [Int32.lt_iff_toInt_lt] at c0; simp only [Int32.reduceToInt] at c0 ⊢; omega
          rw [if_neg c0, gL_b, gck_t (by decide), gL_b, gB_v, h8, nI_1, gL_b, gL_b, i0c]
          dsimp only
          refine ⟨_, rfl, fun x hx' => by rw [gu_rJ hx']; exact hx x hx', fun i hi => ?_⟩
          rw [gu_sl, if_neg c1]
          unfold vlA
          rw [if_neg c1, if_pos n0]
          by_cases e : i = 0
          · rw [if_pos e, if_pos e]
          · rw [if_neg e, if_neg e]; exact h0 i hi
    | succ d ih =>
      intro f k J1 hk hf hx h0
      obtain ⟨f, rfl⟩ : ∃ q, f = q + 1 := ⟨f - 1, by omega⟩
      unfold p_X0_push_29
      rw [if_neg (show ¬ (32 : Int32) ≤ nI k from nI_ge (b := 32) (by omega) (by omega)), gck_t (gin_nI (by omega) (by omega)), gL_b, nI_1, nI_clamp (by omega)]
      refine ih f (k + 1) _ (by omega) (by omega) (fun x hx' => by rw [gu_rJ hx']; exact hx x hx') (fun i hi => ?_)
      rw [gu_sl]
      by_cases e : i = k
      · rw [if_pos e]
      · rw [if_neg e]; exact h0 i (by omega)
  unfold p_X0_push
  rw [h8, if_neg (nI_pos (by omega)), if_pos (show nI h < (16 : Int32) from nI_lt (b := 16) hh (by omega)), gck_t (gin_nI (by omega) (by omega)), nI_clamp (by omega)]
  exact key 32 gFu 0 J (by omega) (by unfold gFu; omega) (fun _ _ => rfl) (fun i hi => absurd hi (Nat.not_lt_zero i))
theorem x0_drop {I : gIt} {a h : Nat} (h8 : I a 8 = nI (h + 2)) (hh : h + 2 ≤ 16) : p_X0_drop I a = some (1, gu2 I a 8 (nI (h + 1))) := by
  unfold p_X0_drop
  rw [h8, if_neg (show ¬ nI (h + 2) < (2 : Int32) from nI_nlt (b := 2) (by omega) (by omega)), if_pos (show nI (h + 2) ≤ (16 : Int32) from nI_le (b := 16) hh (by omega)), show nI (h + 2) - 1 = nI (h + 1) from nI_back _, gL_b, gL_b]
theorem x0_addTop {I : gIt} {J : gJt} {a h : Nat} (h8 : I a 8 = nI (h + 2)) (hh : h + 2 ≤ 16) (s : Int64) : ∃ J', p_X0_addTop I J a s = some (gu2 I a 8 (nI (h + 1)), J') ∧ (∀ x, x ≠ a + 4 + h → J' x = J x) ∧ ∀ i, i < 32 → J' (a + 4 + h) i = J (a + 4 + h) i + s * J (a + 4 + (h + 1)) i := by
  have key : ∀ (d f k : Nat) (J1 : gJt), k + d = 32 → d < f → (∀ x, x ≠ a + 4 + h → J1 x = J x) → (∀ i, J1 (a + 4 + h) i = if i < k then J (a + 4 + h) i + s * J (a + 4 + (h + 1)) i else J (a + 4 + h) i) → ∃ J', p_X0_addTop_10 (gu2 I a 8 (nI (h + 1))) a s f J1 (nI k) = some (gu2 I a 8 (nI (h + 1)), J') ∧ (∀ x, x ≠ a + 4 + h → J' x = J x) ∧ ∀ i, i < 32 → J' (a + 4 + h) i = J (a + 4 + h) i + s * J (a + 4 + (h + 1)) i := by
    intro d
    induction d with
    | zero =>
      intro f k J1 hk hf hx h0
      obtain ⟨f, rfl⟩ : ∃ q, f = q + 1 := ⟨f - 1, by omega⟩
      have : k = 32 := by omega
      subst this
      refine ⟨J1, ?_, hx, fun i hi => by rw [h0 i, if_pos hi]⟩
      unfold p_X0_addTop_10
      rw [if_pos (show (32 : Int32) ≤ nI 32 by decide)]
    | succ d ih =>
      intro f k J1 hk hf hx h0
      obtain ⟨f, rfl⟩ : ∃ q, f = q + 1 := ⟨f - 1, by omega⟩
      have e8 : gu2 I a 8 (nI (h + 1)) a 8 = nI (h + 1) := by rw [gu_sl, if_pos rfl]
      unfold p_X0_addTop_10
      rw [if_neg (show ¬ (32 : Int32) ≤ nI k from nI_ge (b := 32) (by omega) (by omega)), e8, nI_back]
      simp only [gck_t (gin_nI (show h < 16 by omega) (by omega)), gck_t (gin_nI (show h + 1 < 16 by omega) (by omega)), gck_t (gin_nI (show k < 32 by omega) (by omega)), gL_b, nI_clamp (show h < 2 ^ 31 by omega), nI_clamp (show h + 1 < 2 ^ 31 by omega), nI_clamp (show k < 2 ^ 31 by omega), nI_1]
      refine ih f (k + 1) _ (by omega) (by omega) (fun x hx' => by rw [gu_rJ hx']; exact hx x hx') (fun i => ?_)
      rw [gu_sl, hx (a + 4 + (h + 1)) (by omega)]
      by_cases e : i = k
      · rw [if_pos e, if_pos (by omega), h0 k, if_neg (by omega), e]
      · rw [if_neg e, h0 i]
        by_cases c : i < k
        · rw [if_pos c, if_pos (by omega)]
        · rw [if_neg c, if_neg (by omega)]
  unfold p_X0_addTop
  rw [x0_drop h8 hh, gB_v]
  dsimp only
  rw [if_neg (by decide)]
  exact key 32 gFu 0 J (by omega) (by unfold gFu; omega) (fun _ _ => rfl) (fun i => by rw [if_neg (Nat.not_lt_zero i)])
theorem x0_mulTop {I : gIt} {J : gJt} {a h : Nat} (h8 : I a 8 = nI (h + 2)) (hh : h + 2 ≤ 16) : ∃ J', p_X0_multiplyTop I J a = some (gu2 I a 8 (nI (h + 1)), J') ∧ (∀ x, x ≠ a + 4 + h → x ≠ a + 20 → J' x = J x) ∧ ∀ i, i < 32 → J' (a + 4 + h) i = cnv (J (a + 4 + h)) (J (a + 4 + (h + 1))) i := by
  have e8 : gu2 I a 8 (nI (h + 1)) a 8 = nI (h + 1) := by rw [gu_sl, if_pos rfl]
  have inner : ∀ (K : gJt → Int32 → Option (gIt × gJt)) (i : Nat), i < 32 → ∀ (d f j : Nat) (J1 : gJt), j + d = i + 1 → d < f → (∀ x, x ≠ a + 20 → J1 x = J x) → (∀ z, z < i → J1 (a + 20) z = cnv (J (a + 4 + h)) (J (a + 4 + (h + 1))) z) → J1 (a + 20) i = sm (fun j => J (a + 4 + h) j * J (a + 4 + (h + 1)) (i - j)) j → ∃ J', p_X0_multiplyTop_25 K (gu2 I a 8 (nI (h + 1))) a (nI i) f J1 (nI j) = K J' (nI (i + 1)) ∧ (∀ x, x ≠ a + 20 → J' x = J x) ∧ ∀ z, z < i + 1 → J' (a + 20) z = cnv (J (a + 4 + h)) (J (a + 4 + (h + 1))) z := by
    intro K i hi d
    induction d with
    | zero =>
      intro f j J1 hj hf hx h0 hs
      obtain ⟨f, rfl⟩ : ∃ q, f = q + 1 := ⟨f - 1, by omega⟩
      refine ⟨J1, ?_, hx, fun z hz => ?_⟩
      · unfold p_X0_multiplyTop_25
        rw [if_pos (nI_lt (by omega) (by omega)), nI_1]
      · by_cases e : z = i
        · rw [e, hs, show j = i + 1 by omega]; rfl
        · exact h0 z (by omega)
    | succ d ih =>
      intro f j J1 hj hf hx h0 hs
      obtain ⟨f, rfl⟩ : ∃ q, f = q + 1 := ⟨f - 1, by omega⟩
      unfold p_X0_multiplyTop_25
      rw [if_neg (nI_nlt (by omega) (by omega)), e8, nI_back, pk_sub (show j ≤ i by omega)]
      simp only [gck_t (gin_nI (show h < 16 by omega) (by omega)), gck_t (gin_nI (show h + 1 < 16 by omega) (by omega)), gck_t (gin_nI (show i < 32 by omega) (by omega)), gck_t (gin_nI (show j < 32 by omega) (by omega)), gck_t (gin_nI (show i - j < 32 by omega) (by omega)), gL_b, nI_clamp (show h < 2 ^ 31 by omega), nI_clamp (show h + 1 < 2 ^ 31 by omega), nI_clamp (show i < 2 ^ 31 by omega), nI_clamp (show j < 2 ^ 31 by omega), nI_clamp (show i - j < 2 ^ 31 by omega), nI_1, hs, hx (a + 4 + h) (show a + 4 + h ≠ a + 20 by omega), hx (a + 4 + (h + 1)) (show a + 4 + (h + 1) ≠ a + 20 by omega)]
      refine ih f (j + 1) _ (by omega) (by omega) (fun x hx' => by rw [gu_rJ hx']; exact hx x hx') (fun z hz => ?_) ?_
      · rw [gu_sl, if_neg (by omega)]; exact h0 z hz
      · rw [gu_sl, if_pos rfl, sm_s]
  have outer : ∀ (d f i : Nat) (J1 : gJt), i + d = 32 → d < f → (∀ x, x ≠ a + 20 → J1 x = J x) → (∀ z, z < i → J1 (a + 20) z = cnv (J (a + 4 + h)) (J (a + 4 + (h + 1))) z) → ∃ J', p_X0_multiplyTop_10 (gu2 I a 8 (nI (h + 1))) a f J1 (nI i) = some (gu2 I a 8 (nI (h + 1)), J') ∧ (∀ x, x ≠ a + 4 + h → x ≠ a + 20 → J' x = J x) ∧ ∀ i, i < 32 → J' (a + 4 + h) i = cnv (J (a + 4 + h)) (J (a + 4 + (h + 1))) i := by
    intro d
    induction d with
    | zero =>
      intro f i J1 hi hf hx h0
      obtain ⟨f, rfl⟩ : ∃ q, f = q + 1 := ⟨f - 1, by omega⟩
      have : i = 32 := by omega
      subst this
      unfold p_X0_multiplyTop_10
      rw [if_pos (show (32 : Int32) ≤ nI 32 by decide), e8, nI_back, gck_t (gin_nI (by omega) (by omega)), gL_b, nI_clamp (by omega)]
      refine ⟨_, rfl, fun x h1 h2 => ?_, fun i hi => ?_⟩
      · funext z
        unfold gcp
        rw [if_neg (fun q => h1 q.1), hx x h2]
      · unfold gcp
        rw [if_pos ⟨rfl, hi⟩]
        exact h0 i hi
    | succ d ih =>
      intro f i J1 hi hf hx h0
      obtain ⟨f, rfl⟩ : ∃ q, f = q + 1 := ⟨f - 1, by omega⟩
      unfold p_X0_multiplyTop_10
      rw [if_neg (show ¬ (32 : Int32) ≤ nI i from nI_ge (b := 32) (by omega) (by omega)), gck_t (gin_nI (by omega) (by omega)), gL_b, nI_clamp (by omega)]
      obtain ⟨J2, e2, x2, z2⟩ := inner (fun J x1 => p_X0_multiplyTop_10 (gu2 I a 8 (nI (h + 1))) a f J x1) i (by omega) (i + 1) gFu 0 (gu2 J1 (a + 20) i 0) (by omega) (by unfold gFu; omega) (fun x hx' => by rw [gu_rJ hx']; exact hx x hx') (fun z hz => by rw [gu_sl, if_neg (by omega)]; exact h0 z hz) (by rw [gu_sl, if_pos rfl]; rfl)
      rw [show p_X0_multiplyTop_25 (fun J x1 => p_X0_multiplyTop_10 (gu2 I a 8 (nI (h + 1))) a f J x1) (gu2 I a 8 (nI (h + 1))) a (nI i) gFu (gu2 J1 (a + 20) i 0) 0 = _ from e2]
      exact ih f (i + 1) J2 (by omega) (by omega) x2 z2
  unfold p_X0_multiplyTop
  rw [x0_drop h8 hh, gB_v]
  dsimp only
  rw [if_neg (by decide)]
  exact outer 32 gFu 0 J (by omega) (by unfold gFu; omega) (fun _ _ => rfl) (fun z hz => absurd hz (Nat.not_lt_zero z))
/-- one side -/
theorem x0_side {I : gIt} {J0 : gJt} {a : Nat} {g0 g1 g2 g3 : Int64} (hg : gvn J0 a g0 g1 g2 g3) {i n : Nat} (hin : i + n ≤ 60) (hw : ∀ k, k < i + n → -8 ≤ (I (a + 1) k).toInt) (hx : gxd (I (a + 1)) i n = some 1) (hp : gxp (I (a + 1)) i n ≤ 31) {a3 : Nat} (ha3 : a + 20 < a3) : ∃ J' q, p_X0_reduceSide I J0 a (nI i) (nI (i + n)) a3 = some (gu2 I a 8 (nI 1), J') ∧ (∀ x, ¬ (a + 4 ≤ x ∧ x ≤ a + 20) → x ≠ a3 → J' x = J0 x) ∧ px (vlA g0 g1 g2 g3 0) (I (a + 1)) i n = [q] ∧ ∀ k, k < 32 → J' a3 k = q.1 k := by
  have pxl : ∀ j, j ≤ n → (px (vlA g0 g1 g2 g3 0) (I (a + 1)) i j).length ≤ 16 := fun j hj => by
    obtain ⟨d', e⟩ := gxd_le hx j hj
    have := px_ok (vlA_v g0 g1 g2 g3) (vlA_p g0 g1 g2 g3) 0 e (Nat.le_trans (gxp_le hj) hp)
    omega
  have key : ∀ (d fu j : Nat) (J : gJt), j + d = n → d < fu → (∀ x, ¬ (a + 4 ≤ x ∧ x ≤ a + 20) → J x = J0 x) → cJ J a (px (vlA g0 g1 g2 g3 0) (I (a + 1)) i j) → ∃ J' q, p_X0_reduceSide_8 a (nI i) (nI (i + n)) a3 fu (gu2 I a 8 (nI (px (vlA g0 g1 g2 g3 0) (I (a + 1)) i j).length)) J (nI (i + j)) = some (gu2 I a 8 (nI 1), J') ∧ (∀ x, ¬ (a + 4 ≤ x ∧ x ≤ a + 20) → x ≠ a3 → J' x = J0 x) ∧ px (vlA g0 g1 g2 g3 0) (I (a + 1)) i n = [q] ∧ ∀ k, k < 32 → J' a3 k = q.1 k := by
    intro d
    induction d with
    | zero =>
      intro fu j J hj hf hfr hc
      obtain ⟨fu, rfl⟩ : ∃ q, fu = q + 1 := ⟨fu - 1, by omega⟩
      have : j = n := by omega
      subst this
      have hl := (px_ok (vlA_v g0 g1 g2 g3) (vlA_p g0 g1 g2 g3) 0 hx hp).1
      generalize px (vlA g0 g1 g2 g3 0) (I (a + 1)) i j = ps at hc hl ⊢
      match ps, hl with
      | [q], _ =>
        refine ⟨gcp J (a + 4 + 0) a3, q, ?_, fun x h1 h2 => ?_, rfl, fun k hk => ?_⟩
        · unfold p_X0_reduceSide_8
          rw [if_pos (nI_le (by omega) (by omega)), gck_t (by decide), gL_b]
          rfl
        · funext z
          unfold gcp
          rw [if_neg (fun w => h2 w.1), hfr x h1]
        · unfold gcp
          rw [if_pos ⟨rfl, hk⟩]
          exact hc.1 k hk
    | succ d ih =>
      intro fu j J hj hf hfr hc
      obtain ⟨fu, rfl⟩ : ∃ q, fu = q + 1 := ⟨fu - 1, by omega⟩
      obtain ⟨d1, hd1⟩ := gxd_le hx (j + 1) (by omega)
      obtain ⟨d0, hd0⟩ := gxd_pre hd1
      have stp := gxd_step hd1 hd0
      have hl := (px_ok (vlA_v g0 g1 g2 g3) (vlA_p g0 g1 g2 g3) 0 hd0 (Nat.le_trans (gxp_le (by omega)) hp)).1
      have hl16 := pxl j (by omega)
      have hw1 := hw (i + j) (by omega)
      have nx := fun J' => ih fu (j + 1) J' (by omega) (by omega)
      have ep : px (vlA g0 g1 g2 g3 0) (I (a + 1)) i (j + 1) = pxw (vlA g0 g1 g2 g3 0) (I (a + 1) (i + j)) (px (vlA g0 g1 g2 g3 0) (I (a + 1)) i j) := rfl
      rw [ep] at nx
      have hgJ : gvn J a g0 g1 g2 g3 := by unfold gvn; rw [hfr (a + 2) (by omega)]; exact hg
      unfold p_X0_reduceSide_8
      rw [if_neg (nI_ge (by omega) (by omega)), if_neg (nI_ge (by omega) (by omega)), gck_t (gin_nI (by omega) (by omega)), gL_b, nI_clamp (by omega), gu_rd (show a + 1 ≠ a by omega), nI_1, show nI (i + j + 1) = nI (i + (j + 1)) from rfl]
      generalize I (a + 1) (i + j) = c at stp hw1 nx ⊢
      generalize px (vlA g0 g1 g2 g3 0) (I (a + 1)) i j = ps at hc hl hl16 nx ⊢
      have e8 : ∀ m, gu2 I a 8 (nI m) a 8 = nI m := fun m => by rw [gu_sl, if_pos rfl]
      rcases stp with ⟨hop, h2, -⟩ | ⟨n6, n7, n8, hd16, -⟩
      · match ps, hc, hl, hl16, nx with
        | [], _, hl, _, _ => exact absurd hl (by simp; omega)
        | [_], _, hl, _, _ => exact absurd hl (by simp; omega)
        | A :: B :: r, hc, hl, hl16, nx =>
          rw [List.length_cons, List.length_cons] at hl16 ⊢
          have hA := hc.1
          have hB := hc.2.1
          rw [List.length_cons] at hA
          have fin : ∀ (J' : gJt) (new : gPl), (∀ x, x ≠ a + 4 + r.length → x ≠ a + 20 → J' x = J x) → (∀ z, z < 32 → J' (a + 4 + r.length) z = new.1 z) → cJ J' a (new :: r) ∧ ∀ x, ¬ (a + 4 ≤ x ∧ x ≤ a + 20) → J' x = J0 x := fun J' new h1 h2 => ⟨⟨h2, cJ_fr (fun x q1 q2 => h1 x (by omega) (by omega)) hc.2.2⟩, fun x hx' => by rw [h1 x (by omega) (by omega)]; exact hfr x hx'⟩
          by_cases c6 : c = -6
          · obtain ⟨J', e', x', z'⟩ := x0_addTop (I := gu2 I a 8 (nI (r.length + 1 + 1))) (J := J) (e8 _) hl16 1
            have ee : pxw (vlA g0 g1 g2 g3 0) c (A :: B :: r) = (fun z => B.1 z + 1 * A.1 z, A.2 + B.2) :: r := by unfold pxw; rw [if_pos c6]
            rw [ee] at nx
            obtain ⟨q1, q2⟩ := fin J' (fun z => B.1 z + 1 * A.1 z, A.2 + B.2) (fun x h1 _ => x' x h1) (fun z hz => by rw [z' z hz, hA z hz, hB z hz])
            rw [if_pos c6, if_pos c6, e', gB_v]
            dsimp only
            rw [gu2_2]
            exact nx J' q2 q1
          · by_cases c7 : c = -7
            · obtain ⟨J', e', x', z'⟩ := x0_addTop (I := gu2 I a 8 (nI (r.length + 1 + 1))) (J := J) (e8 _) hl16 (-1)
              have ee : pxw (vlA g0 g1 g2 g3 0) c (A :: B :: r) = (fun z => B.1 z + (-1) * A.1 z, A.2 + B.2) :: r := by unfold pxw; rw [if_neg c6, if_pos c7]
              rw [ee] at nx
              obtain ⟨q1, q2⟩ := fin J' (fun z => B.1 z + (-1) * A.1 z, A.2 + B.2) (fun x h1 _ => x' x h1) (fun z hz => by rw [z' z hz, hA z hz, hB z hz])
              rw [if_neg c6, if_pos c7, if_neg c6, e', gB_v]
              dsimp only
              rw [gu2_2]
              exact nx J' q2 q1
            · have c8 : c = -8 := by rcases hop with h | h | h; exact absurd h c6; exact absurd h c7; exact h
              obtain ⟨J', e', x', z'⟩ := x0_mulTop (I := gu2 I a 8 (nI (r.length + 1 + 1))) (J := J) (e8 _) hl16
              have ee : pxw (vlA g0 g1 g2 g3 0) c (A :: B :: r) = (cnv B.1 A.1, A.2 + B.2) :: r := by unfold pxw; rw [if_neg c6, if_neg c7, if_pos c8]
              rw [ee] at nx
              obtain ⟨q1, q2⟩ := fin J' (cnv B.1 A.1, A.2 + B.2) x' (fun z hz => by
                rw [z' z hz]
                unfold cnv
                apply sm_cg
                intro t ht
                rw [hB t (by omega), hA (z - t) (by omega)])
              rw [if_neg c6, if_neg c7, if_pos c8, e', gB_v]
              dsimp only
              rw [gu2_2]
              exact nx J' q2 q1
      · have hc5 : -5 ≤ c.toInt := by
          have q6 : ¬ c.toInt = -6 := fun q => n6 (Int32.toInt_inj.mp q)
          have q7 : ¬ c.toInt = -7 := fun q => n7 (Int32.toInt_inj.mp q)
          have q8 : ¬ c.toInt = -8 := fun q => n8 (Int32.toInt_inj.mp q)
          omega
        obtain ⟨J', e', x', z'⟩ := x0_push (I := gu2 I a 8 (nI ps.length)) (J := J) (e8 _) (by omega) hgJ hc5
        rw [if_neg n6, if_neg n7, if_neg n8, e', gB_v]
        dsimp only
        rw [gu2_2]
        have fr' : ∀ x, ¬ (a + 4 ≤ x ∧ x ≤ a + 20) → J' x = J0 x := fun x hx' => by rw [x' x (by omega)]; exact hfr x hx'
        have cr : cJ J' a ps := cJ_fr (fun x q1 q2 => x' x (by omega)) hc
        by_cases c1 : c = -1
        · have ee : pxw (vlA g0 g1 g2 g3 0) c ps = (fun z => if z = 1 then 1 else 0, 1) :: ps := by unfold pxw; rw [if_neg n6, if_neg n7, if_neg n8, if_pos c1]
          rw [ee] at nx
          exact nx J' fr' ⟨fun z hz => by rw [z' z hz, if_pos c1], cr⟩
        · have ee : pxw (vlA g0 g1 g2 g3 0) c ps = (fun z => if z = 0 then vlA g0 g1 g2 g3 0 c else 0, 0) :: ps := by unfold pxw; rw [if_neg n6, if_neg n7, if_neg n8, if_neg c1]
          rw [ee] at nx
          exact nx J' fr' ⟨fun z hz => by rw [z' z hz, if_neg c1], cr⟩
  unfold p_X0_reduceSide
  rw [gL_b]
  exact key n gFu 0 J0 (by omega) (by unfold gFu; omega) (fun _ _ => rfl) trivial
