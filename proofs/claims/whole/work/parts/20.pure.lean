theorem lr_I {F : (Int → Mm → Prop) → Int → Mm → Prop} (I : Int → Mm → Prop) (μ : Int → Mm → Nat) (hs : ∀ (rec : Int → Mm → Prop) (v1 : Int) (M : Mm), I v1 M → (∀ (u1 : Int) (M2 : Mm), I u1 M2 → μ u1 M2 < μ v1 M → rec u1 M2) → F rec v1 M) {v1 : Int} {M : Mm} (h : I v1 M) : ∃ n, lp_I F n v1 M := by
  have key : ∀ (n : Nat) (v1 : Int) (M : Mm), I v1 M → μ v1 M < n → lp_I F n v1 M := by
    intro n
    induction n with
    | zero => intro v1 M hi hn; exact absurd hn (Nat.not_lt_zero _)
    | succ n ih => intro v1 M hi hn; exact hs _ v1 M hi (fun u1 M2 h1 h2 => ih u1 M2 h1 (by omega))
  exact ⟨μ v1 M + 1, key _ v1 M h (Nat.lt_succ_self _)⟩
theorem lk_I {F : (Int → Mm → Prop) → Int → Mm → Prop} {M : Mm} (I : Int → Prop) (μ : Int → Nat) (hs : ∀ (rec : Int → Mm → Prop) (v1 : Int), I v1 → (∀ (u1 : Int), I u1 → μ u1 < μ v1 → rec u1 M) → F rec v1 M) {v1 : Int} (h : I v1) : ∃ n, lp_I F n v1 M := by
  refine lr_I (fun v1 M2 => I v1 ∧ M2 = M) (fun v1 _ => μ v1) ?_ ⟨h, rfl⟩
  rintro rec v1 M2 ⟨hi, rfl⟩ hr
  exact hs rec v1 hi (fun u1 h1 h2 => hr u1 _ ⟨h1, rfl⟩ h2)
theorem lr_II {F : (Int → Int → Mm → Prop) → Int → Int → Mm → Prop} (I : Int → Int → Mm → Prop) (μ : Int → Int → Mm → Nat) (hs : ∀ (rec : Int → Int → Mm → Prop) (v1 : Int) (v2 : Int) (M : Mm), I v1 v2 M → (∀ (u1 : Int) (u2 : Int) (M2 : Mm), I u1 u2 M2 → μ u1 u2 M2 < μ v1 v2 M → rec u1 u2 M2) → F rec v1 v2 M) {v1 : Int} {v2 : Int} {M : Mm} (h : I v1 v2 M) : ∃ n, lp_II F n v1 v2 M := by
  have key : ∀ (n : Nat) (v1 : Int) (v2 : Int) (M : Mm), I v1 v2 M → μ v1 v2 M < n → lp_II F n v1 v2 M := by
    intro n
    induction n with
    | zero => intro v1 v2 M hi hn; exact absurd hn (Nat.not_lt_zero _)
    | succ n ih => intro v1 v2 M hi hn; exact hs _ v1 v2 M hi (fun u1 u2 M2 h1 h2 => ih u1 u2 M2 h1 (by omega))
  exact ⟨μ v1 v2 M + 1, key _ v1 v2 M h (Nat.lt_succ_self _)⟩
theorem lk_II {F : (Int → Int → Mm → Prop) → Int → Int → Mm → Prop} {M : Mm} (I : Int → Int → Prop) (μ : Int → Int → Nat) (hs : ∀ (rec : Int → Int → Mm → Prop) (v1 : Int) (v2 : Int), I v1 v2 → (∀ (u1 : Int) (u2 : Int), I u1 u2 → μ u1 u2 < μ v1 v2 → rec u1 u2 M) → F rec v1 v2 M) {v1 : Int} {v2 : Int} (h : I v1 v2) : ∃ n, lp_II F n v1 v2 M := by
  refine lr_II (fun v1 v2 M2 => I v1 v2 ∧ M2 = M) (fun v1 v2 _ => μ v1 v2) ?_ ⟨h, rfl⟩
  rintro rec v1 v2 M2 ⟨hi, rfl⟩ hr
  exact hs rec v1 v2 hi (fun u1 u2 h1 h2 => hr u1 u2 _ ⟨h1, rfl⟩ h2)
theorem lr_III {F : (Int → Int → Int → Mm → Prop) → Int → Int → Int → Mm → Prop} (I : Int → Int → Int → Mm → Prop) (μ : Int → Int → Int → Mm → Nat) (hs : ∀ (rec : Int → Int → Int → Mm → Prop) (v1 : Int) (v2 : Int) (v3 : Int) (M : Mm), I v1 v2 v3 M → (∀ (u1 : Int) (u2 : Int) (u3 : Int) (M2 : Mm), I u1 u2 u3 M2 → μ u1 u2 u3 M2 < μ v1 v2 v3 M → rec u1 u2 u3 M2) → F rec v1 v2 v3 M) {v1 : Int} {v2 : Int} {v3 : Int} {M : Mm} (h : I v1 v2 v3 M) : ∃ n, lp_III F n v1 v2 v3 M := by
  have key : ∀ (n : Nat) (v1 : Int) (v2 : Int) (v3 : Int) (M : Mm), I v1 v2 v3 M → μ v1 v2 v3 M < n → lp_III F n v1 v2 v3 M := by
    intro n
    induction n with
    | zero => intro v1 v2 v3 M hi hn; exact absurd hn (Nat.not_lt_zero _)
    | succ n ih => intro v1 v2 v3 M hi hn; exact hs _ v1 v2 v3 M hi (fun u1 u2 u3 M2 h1 h2 => ih u1 u2 u3 M2 h1 (by omega))
  exact ⟨μ v1 v2 v3 M + 1, key _ v1 v2 v3 M h (Nat.lt_succ_self _)⟩
theorem lk_III {F : (Int → Int → Int → Mm → Prop) → Int → Int → Int → Mm → Prop} {M : Mm} (I : Int → Int → Int → Prop) (μ : Int → Int → Int → Nat) (hs : ∀ (rec : Int → Int → Int → Mm → Prop) (v1 : Int) (v2 : Int) (v3 : Int), I v1 v2 v3 → (∀ (u1 : Int) (u2 : Int) (u3 : Int), I u1 u2 u3 → μ u1 u2 u3 < μ v1 v2 v3 → rec u1 u2 u3 M) → F rec v1 v2 v3 M) {v1 : Int} {v2 : Int} {v3 : Int} (h : I v1 v2 v3) : ∃ n, lp_III F n v1 v2 v3 M := by
  refine lr_III (fun v1 v2 v3 M2 => I v1 v2 v3 ∧ M2 = M) (fun v1 v2 v3 _ => μ v1 v2 v3) ?_ ⟨h, rfl⟩
  rintro rec v1 v2 v3 M2 ⟨hi, rfl⟩ hr
  exact hs rec v1 v2 v3 hi (fun u1 u2 u3 h1 h2 => hr u1 u2 u3 _ ⟨h1, rfl⟩ h2)
theorem lr_IIII {F : (Int → Int → Int → Int → Mm → Prop) → Int → Int → Int → Int → Mm → Prop} (I : Int → Int → Int → Int → Mm → Prop) (μ : Int → Int → Int → Int → Mm → Nat) (hs : ∀ (rec : Int → Int → Int → Int → Mm → Prop) (v1 : Int) (v2 : Int) (v3 : Int) (v4 : Int) (M : Mm), I v1 v2 v3 v4 M → (∀ (u1 : Int) (u2 : Int) (u3 : Int) (u4 : Int) (M2 : Mm), I u1 u2 u3 u4 M2 → μ u1 u2 u3 u4 M2 < μ v1 v2 v3 v4 M → rec u1 u2 u3 u4 M2) → F rec v1 v2 v3 v4 M) {v1 : Int} {v2 : Int} {v3 : Int} {v4 : Int} {M : Mm} (h : I v1 v2 v3 v4 M) : ∃ n, lp_IIII F n v1 v2 v3 v4 M := by
  have key : ∀ (n : Nat) (v1 : Int) (v2 : Int) (v3 : Int) (v4 : Int) (M : Mm), I v1 v2 v3 v4 M → μ v1 v2 v3 v4 M < n → lp_IIII F n v1 v2 v3 v4 M := by
    intro n
    induction n with
    | zero => intro v1 v2 v3 v4 M hi hn; exact absurd hn (Nat.not_lt_zero _)
    | succ n ih => intro v1 v2 v3 v4 M hi hn; exact hs _ v1 v2 v3 v4 M hi (fun u1 u2 u3 u4 M2 h1 h2 => ih u1 u2 u3 u4 M2 h1 (by omega))
  exact ⟨μ v1 v2 v3 v4 M + 1, key _ v1 v2 v3 v4 M h (Nat.lt_succ_self _)⟩
theorem lk_IIII {F : (Int → Int → Int → Int → Mm → Prop) → Int → Int → Int → Int → Mm → Prop} {M : Mm} (I : Int → Int → Int → Int → Prop) (μ : Int → Int → Int → Int → Nat) (hs : ∀ (rec : Int → Int → Int → Int → Mm → Prop) (v1 : Int) (v2 : Int) (v3 : Int) (v4 : Int), I v1 v2 v3 v4 → (∀ (u1 : Int) (u2 : Int) (u3 : Int) (u4 : Int), I u1 u2 u3 u4 → μ u1 u2 u3 u4 < μ v1 v2 v3 v4 → rec u1 u2 u3 u4 M) → F rec v1 v2 v3 v4 M) {v1 : Int} {v2 : Int} {v3 : Int} {v4 : Int} (h : I v1 v2 v3 v4) : ∃ n, lp_IIII F n v1 v2 v3 v4 M := by
  refine lr_IIII (fun v1 v2 v3 v4 M2 => I v1 v2 v3 v4 ∧ M2 = M) (fun v1 v2 v3 v4 _ => μ v1 v2 v3 v4) ?_ ⟨h, rfl⟩
  rintro rec v1 v2 v3 v4 M2 ⟨hi, rfl⟩ hr
  exact hs rec v1 v2 v3 v4 hi (fun u1 u2 u3 u4 h1 h2 => hr u1 u2 u3 u4 _ ⟨h1, rfl⟩ h2)
theorem lr_LI {F : (Int64 → Int → Mm → Prop) → Int64 → Int → Mm → Prop} (I : Int64 → Int → Mm → Prop) (μ : Int64 → Int → Mm → Nat) (hs : ∀ (rec : Int64 → Int → Mm → Prop) (v1 : Int64) (v2 : Int) (M : Mm), I v1 v2 M → (∀ (u1 : Int64) (u2 : Int) (M2 : Mm), I u1 u2 M2 → μ u1 u2 M2 < μ v1 v2 M → rec u1 u2 M2) → F rec v1 v2 M) {v1 : Int64} {v2 : Int} {M : Mm} (h : I v1 v2 M) : ∃ n, lp_LI F n v1 v2 M := by
  have key : ∀ (n : Nat) (v1 : Int64) (v2 : Int) (M : Mm), I v1 v2 M → μ v1 v2 M < n → lp_LI F n v1 v2 M := by
    intro n
    induction n with
    | zero => intro v1 v2 M hi hn; exact absurd hn (Nat.not_lt_zero _)
    | succ n ih => intro v1 v2 M hi hn; exact hs _ v1 v2 M hi (fun u1 u2 M2 h1 h2 => ih u1 u2 M2 h1 (by omega))
  exact ⟨μ v1 v2 M + 1, key _ v1 v2 M h (Nat.lt_succ_self _)⟩
theorem lk_LI {F : (Int64 → Int → Mm → Prop) → Int64 → Int → Mm → Prop} {M : Mm} (I : Int64 → Int → Prop) (μ : Int64 → Int → Nat) (hs : ∀ (rec : Int64 → Int → Mm → Prop) (v1 : Int64) (v2 : Int), I v1 v2 → (∀ (u1 : Int64) (u2 : Int), I u1 u2 → μ u1 u2 < μ v1 v2 → rec u1 u2 M) → F rec v1 v2 M) {v1 : Int64} {v2 : Int} (h : I v1 v2) : ∃ n, lp_LI F n v1 v2 M := by
  refine lr_LI (fun v1 v2 M2 => I v1 v2 ∧ M2 = M) (fun v1 v2 _ => μ v1 v2) ?_ ⟨h, rfl⟩
  rintro rec v1 v2 M2 ⟨hi, rfl⟩ hr
  exact hs rec v1 v2 hi (fun u1 u2 h1 h2 => hr u1 u2 _ ⟨h1, rfl⟩ h2)
theorem lr_o {F : (Mm → Prop) → Mm → Prop} (I : Mm → Prop) (μ : Mm → Nat) (hs : ∀ (rec : Mm → Prop) (M : Mm), I  M → (∀ (M2 : Mm), I  M2 → μ  M2 < μ  M → rec  M2) → F rec  M) {M : Mm} (h : I  M) : ∃ n, lp_o F n  M := by
  have key : ∀ (n : Nat) (M : Mm), I  M → μ  M < n → lp_o F n  M := by
    intro n
    induction n with
    | zero => intro  M hi hn; exact absurd hn (Nat.not_lt_zero _)
    | succ n ih => intro  M hi hn; exact hs _  M hi (fun  M2 h1 h2 => ih  M2 h1 (by omega))
  exact ⟨μ  M + 1, key _  M h (Nat.lt_succ_self _)⟩
theorem ilg (a b : Int) : a < b ∨ b ≤ a := by omega
/-! ===== lines: tabs counted, the first place of a sign, cells ===== -/
def nT (f : Int → Int) : Nat → Int
  | 0 => 0
  | n + 1 => nT f n + (if f (n : Int) = 124 then 1 else 0)
def cT (f : Int → Int) (i : Int) : Int := nT f i.toNat
theorem cT_0 (f : Int → Int) : cT f 0 = 0 := rfl
theorem cT_s (f : Int → Int) {i : Int} (h : 0 ≤ i) : cT f (i + 1) = cT f i + (if f i = 124 then 1 else 0) := by
  obtain ⟨n, rfl⟩ := Int.eq_ofNat_of_zero_le h
  rfl
theorem cT_st (f : Int → Int) {i : Int} (h : 0 ≤ i) (ht : f i = 124) : cT f (i + 1) = cT f i + 1 := by rw [cT_s f h, if_pos ht]
theorem cT_sn (f : Int → Int) {i : Int} (h : 0 ≤ i) (ht : f i ≠ 124) : cT f (i + 1) = cT f i := by rw [cT_s f h, if_neg ht]; omega
theorem nT_rg (f : Int → Int) : ∀ n : Nat, 0 ≤ nT f n ∧ nT f n ≤ n
  | 0 => ⟨Int.le_refl 0, Int.le_refl 0⟩
  | n + 1 => by
    have h := nT_rg f n
    show 0 ≤ nT f n + (if f (n : Int) = 124 then 1 else 0) ∧ nT f n + (if f (n : Int) = 124 then 1 else 0) ≤ ((n + 1 : Nat) : Int)
    split <;> omega
theorem cT_rg (f : Int → Int) {i : Int} (h : 0 ≤ i) : 0 ≤ cT f i ∧ cT f i ≤ i := by
  have := nT_rg f i.toNat
  unfold cT
  omega
theorem nT_mono (f : Int → Int) (a : Nat) : ∀ d : Nat, nT f a ≤ nT f (a + d) ∧ nT f (a + d) ≤ nT f a + d
  | 0 => ⟨Int.le_refl _, by simp⟩
  | d + 1 => by
    have h := nT_mono f a d
    have e : nT f (a + (d + 1)) = nT f (a + d) + (if f ((a + d : Nat) : Int) = 124 then 1 else 0) := rfl
    rw [e]
    split <;> omega
theorem cT_mono (f : Int → Int) {a b : Int} (h : 0 ≤ a) (hab : a ≤ b) : cT f a ≤ cT f b ∧ cT f b ≤ cT f a + (b - a) := by
  have := nT_mono f a.toNat (b - a).toNat
  have e : a.toNat + (b - a).toNat = b.toNat := by omega
  rw [e] at this
  unfold cT
  omega
theorem cT_cong {f g : Int → Int} {i : Int} (h : ∀ j, 0 ≤ j → j < i → f j = g j) : cT f i = cT g i := by
  unfold cT
  have key : ∀ n : Nat, (n : Int) ≤ i ∨ n = 0 → nT f n = nT g n := by
    intro n
    induction n with
    | zero => intro _; rfl
    | succ n ih =>
      intro hn
      show nT f n + _ = nT g n + _
      rw [ih (by omega), h n (by omega) (by omega)]
  exact key _ (by omega)
/-- no tab in between: the count stays -/
theorem cT_flat (f : Int → Int) {a b : Int} (h : 0 ≤ a) (hab : a ≤ b) (hn : ∀ i, a ≤ i → i < b → f i ≠ 124) : cT f b = cT f a := by
  obtain ⟨d, hd⟩ := Int.eq_ofNat_of_zero_le (show 0 ≤ b - a by omega)
  induction d generalizing b with
  | zero => rw [show b = a by omega]
  | succ d ih =>
    have e := ih (b := b - 1) (by omega) (fun i h1 h2 => hn i h1 (by omega)) (by omega)
    have := cT_sn f (i := b - 1) (by omega) (hn _ (by omega) (by omega))
    rw [show b - 1 + 1 = b by omega] at this
    omega
/-- the first place from a on, below b, that holds c; b if there is none -/
def fs (f : Int → Int) (c b : Int) : Nat → Int → Int
  | 0, a => a
  | n + 1, a => if a < b ∧ f a ≠ c then fs f c b n (a + 1) else a
def fi (f : Int → Int) (c b a : Int) : Int := fs f c b (b - a).toNat a
theorem fi_stop {f : Int → Int} {c b a : Int} (h : ¬ (a < b ∧ f a ≠ c)) : fi f c b a = a := by
  unfold fi
  cases e : (b - a).toNat with
  | zero => rfl
  | succ n => show (if a < b ∧ f a ≠ c then _ else a) = a; rw [if_neg h]
theorem fi_go {f : Int → Int} {c b a : Int} (h : a < b) (h2 : f a ≠ c) : fi f c b a = fi f c b (a + 1) := by
  unfold fi
  have e : (b - a).toNat = (b - (a + 1)).toNat + 1 := by omega
  rw [e]
  show (if a < b ∧ f a ≠ c then _ else a) = _
  rw [if_pos ⟨h, h2⟩]
theorem fi_spec (f : Int → Int) (c : Int) {a b : Int} (h : a ≤ b) : a ≤ fi f c b a ∧ fi f c b a ≤ b ∧ (∀ i, a ≤ i → i < fi f c b a → f i ≠ c) ∧ (fi f c b a < b → f (fi f c b a) = c) := by
  obtain ⟨d, hd⟩ := Int.eq_ofNat_of_zero_le (show 0 ≤ b - a by omega)
  induction d generalizing a with
  | zero =>
    rw [fi_stop (by omega)]
    exact ⟨Int.le_refl _, h, fun i h1 h2 => by omega, fun h1 => by omega⟩
  | succ d ih =>
    by_cases hc : f a = c
    · rw [fi_stop (by simp [hc])]
      exact ⟨Int.le_refl _, h, fun i h1 h2 => by omega, fun _ => hc⟩
    · rw [fi_go (by omega) hc]
      obtain ⟨h1, h2, h3, h4⟩ := ih (a := a + 1) (by omega) (by omega)
      refine ⟨by omega, h2, fun i g1 g2 => ?_, h4⟩
      by_cases hi : i = a
      · rw [hi]; exact hc
      · exact h3 i (by omega) g2
theorem fi_uniq {f : Int → Int} {c a b r : Int} (h1 : a ≤ r) (h2 : r ≤ b) (h3 : ∀ i, a ≤ i → i < r → f i ≠ c) (h4 : r < b → f r = c) : fi f c b a = r := by
  obtain ⟨g1, g2, g3, g4⟩ := fi_spec f c (show a ≤ b by omega)
  rcases Int.lt_trichotomy (fi f c b a) r with h | h | h
  · exact absurd (g4 (by omega)) (h3 _ g1 h)
  · exact h
  · exact absurd (h4 (by omega)) (g3 r h1 h)
theorem fi_cong {f g : Int → Int} {c a b : Int} (hab : a ≤ b) (h : ∀ i, a ≤ i → i < b → f i = g i) : fi f c b a = fi g c b a := by
  obtain ⟨g1, g2, g3, g4⟩ := fi_spec g c hab
  exact fi_uniq g1 g2 (fun i h1 h2 => by rw [h i h1 (by omega)]; exact g3 i h1 h2) (fun h1 => by rw [h _ g1 h1]; exact g4 h1)
/-- where cell k starts -/
def fr (f : Int → Int) (n : Int) : Nat → Int
  | 0 => 0
  | k + 1 => fi f 124 n (fr f n k) + 1
def frm (f : Int → Int) (n k : Int) : Int := fr f n k.toNat
theorem frm_0 (f : Int → Int) (n : Int) : frm f n 0 = 0 := rfl
theorem frm_s (f : Int → Int) (n : Int) {k : Int} (h : 0 ≤ k) : frm f n (k + 1) = fi f 124 n (frm f n k) + 1 := by
  obtain ⟨q, rfl⟩ := Int.eq_ofNat_of_zero_le h
  rfl
/-- cells up to the count: the start holds k tabs before it, is behind a tab, and lies within -/
theorem frm_spec (f : Int → Int) {n : Int} (hn : 0 ≤ n) {k : Int} (h0 : 0 ≤ k) (hk : k ≤ cT f n) : 0 ≤ frm f n k ∧ frm f n k ≤ n ∧ cT f (frm f n k) = k ∧ (0 < k → f (frm f n k - 1) = 124) := by
  obtain ⟨q, rfl⟩ := Int.eq_ofNat_of_zero_le h0
  induction q with
  | zero => exact ⟨Int.le_refl 0, hn, rfl, fun h => by omega⟩
  | succ q ih =>
    obtain ⟨h1, h2, h3, -⟩ := ih (by omega) (by omega)
    obtain ⟨g1, g2, g3, g4⟩ := fi_spec f 124 h2
    have e : frm f n ((q + 1 : Nat) : Int) = fi f 124 n (frm f n q) + 1 := rfl
    have hlt : fi f 124 n (frm f n q) < n := by
      rcases ilg (fi f 124 n (frm f n q)) n with h | h
      · exact h
      · have : fi f 124 n (frm f n q) = n := by omega
        rw [this] at g3
        have := cT_flat f h1 h2 g3
        omega
    have hf := cT_flat f h1 g1 g3
    have ht := cT_st f (i := fi f 124 n (frm f n q)) (by omega) (g4 hlt)
    rw [e]
    refine ⟨by omega, by omega, by omega, fun _ => ?_⟩
    rw [show fi f 124 n (frm f n q) + 1 - 1 = fi f 124 n (frm f n q) by omega]
    exact g4 hlt
/-- below the count: the cell ends at a tab -/
theorem frm_end (f : Int → Int) {n : Int} (hn : 0 ≤ n) {k : Int} (h0 : 0 ≤ k) (hk : k < cT f n) : frm f n k ≤ fi f 124 n (frm f n k) ∧ fi f 124 n (frm f n k) < n ∧ f (fi f 124 n (frm f n k)) = 124 ∧ cT f (fi f 124 n (frm f n k)) = k := by
  obtain ⟨h1, h2, h3, -⟩ := frm_spec f hn h0 (by omega)
  obtain ⟨g1, g2, g3, g4⟩ := fi_spec f 124 h2
  have hlt : fi f 124 n (frm f n k) < n := by
    rcases ilg (fi f 124 n (frm f n k)) n with h | h
    · exact h
    · have : fi f 124 n (frm f n k) = n := by omega
      rw [this] at g3
      have := cT_flat f h1 h2 g3
      omega
  exact ⟨g1, hlt, g4 hlt, by rw [cT_flat f h1 g1 g3]; exact h3⟩
/-- a place with k tabs before it that is 0 or behind a tab is where cell k starts -/
theorem frm_uniq (f : Int → Int) {n : Int} (hn : 0 ≤ n) {k a : Int} (h0 : 0 ≤ k) (hk : k ≤ cT f n) (ha : 0 ≤ a) (hc : cT f a = k) (ht : a = 0 ∨ f (a - 1) = 124) : frm f n k = a := by
  obtain ⟨h1, h2, h3, h4⟩ := frm_spec f hn h0 hk
  rcases Int.lt_trichotomy (frm f n k) a with h | h | h
  · rcases ht with ht | ht
    · omega
    · have e1 := cT_st f (i := a - 1) (by omega) ht
      rw [show a - 1 + 1 = a by omega] at e1
      have := cT_mono f h1 (show frm f n k ≤ a - 1 by omega)
      omega
  · exact h
  · have hk0 : 0 < k := by
      rcases ilg 0 k with q | q
      · exact q
      · rw [show k = 0 by omega, frm_0] at h
        omega
    have e1 := cT_st f (i := frm f n k - 1) (by omega) (h4 hk0)
    rw [show frm f n k - 1 + 1 = frm f n k by omega] at e1
    have := cT_mono f ha (show a ≤ frm f n k - 1 by omega)
    omega
/-- where the last cell is over: no tab from there on -/
theorem frm_tail (f : Int → Int) {n : Int} (hn : 0 ≤ n) : fi f 124 n (frm f n (cT f n)) = n := by
  obtain ⟨h1, h2, h3, -⟩ := frm_spec f hn (cT_rg f hn).1 (Int.le_refl _)
  obtain ⟨g1, g2, g3, g4⟩ := fi_spec f 124 h2
  rcases ilg (fi f 124 n (frm f n (cT f n))) n with h | h
  · have e := cT_st f (i := fi f 124 n (frm f n (cT f n))) (by omega) (g4 h)
    have e2 := cT_flat f h1 g1 g3
    have := cT_mono f (show 0 ≤ fi f 124 n (frm f n (cT f n)) + 1 by omega) (show fi f 124 n (frm f n (cT f n)) + 1 ≤ n by omega)
    omega
  · omega
theorem frm_cong {f g : Int → Int} {n : Int} (hn : 0 ≤ n) (h : ∀ i, 0 ≤ i → i < n → f i = g i) {k : Int} (h0 : 0 ≤ k) (hk : k ≤ cT f n) : frm f n k = frm g n k := by
  have hc : cT f n = cT g n := cT_cong h
  obtain ⟨h1, h2, h3, h4⟩ := frm_spec f hn h0 hk
  refine (frm_uniq g hn h0 (by omega) h1 ?_ ?_).symm
  · exact (cT_cong (f := f) (g := g) (fun j a b => h j a (by omega))).symm.trans h3
  · rcases ilg 0 k with q | q
    · right
      have hp : 0 < frm f n k := by
        rcases ilg 0 (frm f n k) with z | z
        · exact z
        · have e : frm f n k = 0 := by omega
          rw [e, cT_0] at h3
          omega
      rw [← h (frm f n k - 1) (by omega) (by omega)]
      exact h4 q
    · left
      rw [show k = 0 by omega]
      rfl
/-! ===== a block: up and down from a line while the count of cells is more than k ===== -/
def bf (c : Int → Int) (k : Int) : Nat → Int
  | 0 => 0
  | l + 1 => if k < c (l : Int) then bf c k l else ((l + 1 : Nat) : Int)
def fir (c : Int → Int) (k l : Int) : Int := bf c k l.toNat
theorem fir_0 (c : Int → Int) (k : Int) : fir c k 0 = 0 := rfl
theorem fir_s {c : Int → Int} {k l : Int} (h : 0 < l) : fir c k l = if k < c (l - 1) then fir c k (l - 1) else l := by
  obtain ⟨n, hn⟩ := Int.eq_ofNat_of_zero_le (show 0 ≤ l - 1 by omega)
  have e : l = ((n + 1 : Nat) : Int) := by omega
  subst e
  show bf c k (n + 1) = _
  rw [show ((n + 1 : Nat) : Int) - 1 = (n : Int) by omega]
  rfl
def bl (c : Int → Int) (m k : Int) : Nat → Int → Int
  | 0, l => l
  | n + 1, l => if l + 1 < m ∧ k < c (l + 1) then bl c m k n (l + 1) else l
def las (c : Int → Int) (m k l : Int) : Int := bl c m k (m - l).toNat l
theorem las_stop {c : Int → Int} {m k l : Int} (h : ¬ (l + 1 < m ∧ k < c (l + 1))) : las c m k l = l := by
  unfold las
  cases e : (m - l).toNat with
  | zero => rfl
  | succ n => show (if l + 1 < m ∧ k < c (l + 1) then _ else l) = l; rw [if_neg h]
theorem las_go {c : Int → Int} {m k l : Int} (h : l + 1 < m) (h2 : k < c (l + 1)) : las c m k l = las c m k (l + 1) := by
  unfold las
  have e : (m - l).toNat = (m - (l + 1)).toNat + 1 := by omega
  rw [e]
  show (if l + 1 < m ∧ k < c (l + 1) then _ else l) = _
  rw [if_pos ⟨h, h2⟩]
theorem fir_spec (c : Int → Int) (k : Int) {l : Int} (h : 0 ≤ l) : 0 ≤ fir c k l ∧ fir c k l ≤ l ∧ (∀ i, fir c k l ≤ i → i < l → k < c i) ∧ (0 < fir c k l → c (fir c k l - 1) ≤ k) := by
  obtain ⟨n, rfl⟩ := Int.eq_ofNat_of_zero_le h
  induction n with
  | zero =>
    have e : fir c k ((0 : Nat) : Int) = 0 := rfl
    rw [e]
    exact ⟨Int.le_refl 0, Int.le_refl 0, fun i h1 h2 => by omega, fun h => by omega⟩
  | succ n ih =>
    obtain ⟨h1, h2, h3, h4⟩ := ih (by omega)
    rw [fir_s (by omega), show ((n + 1 : Nat) : Int) - 1 = (n : Int) by omega]
    by_cases hc : k < c n
    · rw [if_pos hc]
      refine ⟨h1, by omega, fun i g1 g2 => ?_, h4⟩
      by_cases hi : i = n
      · rw [hi]; exact hc
      · exact h3 i g1 (by omega)
    · rw [if_neg hc]
      refine ⟨by omega, Int.le_refl _, fun i g1 g2 => by omega, fun _ => ?_⟩
      rw [show ((n + 1 : Nat) : Int) - 1 = (n : Int) by omega]
      omega
theorem fir_uniq {c : Int → Int} {k l r : Int} (h0 : 0 ≤ r) (h1 : r ≤ l) (h2 : ∀ i, r ≤ i → i < l → k < c i) (h3 : 0 < r → c (r - 1) ≤ k) : fir c k l = r := by
  obtain ⟨g1, g2, g3, g4⟩ := fir_spec c k (show 0 ≤ l by omega)
  rcases Int.lt_trichotomy (fir c k l) r with h | h | h
  · have := g3 (r - 1) (by omega) (by omega)
    have := h3 (by omega)
    omega
  · exact h
  · have := h2 (fir c k l - 1) (by omega) (by omega)
    have := g4 (by omega)
    omega
theorem las_spec (c : Int → Int) (k : Int) {l m : Int} (h : l < m) : l ≤ las c m k l ∧ las c m k l < m ∧ (∀ i, l < i → i ≤ las c m k l → k < c i) ∧ (las c m k l + 1 < m → c (las c m k l + 1) ≤ k) := by
  obtain ⟨d, hd⟩ := Int.eq_ofNat_of_zero_le (show 0 ≤ m - l - 1 by omega)
  induction d generalizing l with
  | zero =>
    rw [las_stop (by omega)]
    exact ⟨Int.le_refl _, h, fun i h1 h2 => by omega, fun h1 => by omega⟩
  | succ d ih =>
    by_cases hc : k < c (l + 1)
    · rw [las_go (by omega) hc]
      obtain ⟨h1, h2, h3, h4⟩ := ih (l := l + 1) (by omega) (by omega)
      refine ⟨by omega, h2, fun i g1 g2 => ?_, h4⟩
      by_cases hi : i = l + 1
      · rw [hi]; exact hc
      · exact h3 i (by omega) g2
    · rw [las_stop (by omega)]
      exact ⟨Int.le_refl _, h, fun i h1 h2 => by omega, fun _ => by omega⟩
theorem las_uniq {c : Int → Int} {k l m r : Int} (h0 : l ≤ r) (h1 : r < m) (h2 : ∀ i, l < i → i ≤ r → k < c i) (h3 : r + 1 < m → c (r + 1) ≤ k) : las c m k l = r := by
  obtain ⟨g1, g2, g3, g4⟩ := las_spec c k (show l < m by omega)
  rcases Int.lt_trichotomy (las c m k l) r with h | h | h
  · have := h2 (las c m k l + 1) (by omega) (by omega)
    have := g4 (by omega)
    omega
  · exact h
  · have := g3 (r + 1) (by omega) (by omega)
    have := h3 (by omega)
    omega
/-! ===== the most of a range, sums ===== -/
def mxn (g : Int → Int) (a : Int) : Nat → Int
  | 0 => 0
  | n + 1 => max (mxn g a n) (g (a + n))
def mxr (g : Int → Int) (a b : Int) : Int := mxn g a (b - a).toNat
theorem mxr_0 (g : Int → Int) {a b : Int} (h : b ≤ a) : mxr g a b = 0 := by
  unfold mxr
  rw [show (b - a).toNat = 0 by omega]
  rfl
theorem mxr_s (g : Int → Int) {a b : Int} (h : a ≤ b) : mxr g a (b + 1) = max (mxr g a b) (g b) := by
  unfold mxr
  rw [show (b + 1 - a).toNat = (b - a).toNat + 1 by omega]
  show max (mxn g a (b - a).toNat) (g (a + ((b - a).toNat : Nat))) = _
  rw [show a + (((b - a).toNat : Nat) : Int) = b by omega]
theorem mxr_rg {g : Int → Int} {a b c : Int} (hc : 0 ≤ c) (h : ∀ i, a ≤ i → i < b → g i ≤ c) : 0 ≤ mxr g a b ∧ mxr g a b ≤ c := by
  rcases ilg a b with hab | hab
  · obtain ⟨d, hd⟩ := Int.eq_ofNat_of_zero_le (show 0 ≤ b - a by omega)
    induction d generalizing b with
    | zero => omega
    | succ d ih =>
      have e := mxr_s g (a := a) (b := b - 1) (by omega)
      rw [show b - 1 + 1 = b by omega] at e
      rw [e]
      have hg := h (b - 1) (by omega) (by omega)
      rcases ilg a (b - 1) with q | q
      · have := ih (b := b - 1) (fun i h1 h2 => h i h1 (by omega)) q (by omega)
        omega
      · rw [mxr_0 g q]
        omega
  · rw [mxr_0 g hab]
    omega
theorem mxr_ge (g : Int → Int) {a b i : Int} (h1 : a ≤ i) (h2 : i < b) : g i ≤ mxr g a b := by
  obtain ⟨d, hd⟩ := Int.eq_ofNat_of_zero_le (show 0 ≤ b - 1 - i by omega)
  induction d generalizing b with
  | zero =>
    have e := mxr_s g (a := a) (b := b - 1) (by omega)
    rw [show b - 1 + 1 = b by omega] at e
    rw [e, show b - 1 = i by omega]
    omega
  | succ d ih =>
    have e := mxr_s g (a := a) (b := b - 1) (by omega)
    rw [show b - 1 + 1 = b by omega] at e
    rw [e]
    have := ih (b := b - 1) (by omega) (by omega)
    omega
theorem mxr_cong {g h : Int → Int} {a b : Int} (hgh : ∀ i, a ≤ i → i < b → g i = h i) : mxr g a b = mxr h a b := by
  rcases ilg a b with hab | hab
  · obtain ⟨d, hd⟩ := Int.eq_ofNat_of_zero_le (show 0 ≤ b - a by omega)
    induction d generalizing b with
    | zero => omega
    | succ d ih =>
      have e := mxr_s g (a := a) (b := b - 1) (by omega)
      have e2 := mxr_s h (a := a) (b := b - 1) (by omega)
      rw [show b - 1 + 1 = b by omega] at e e2
      rw [e, e2, hgh (b - 1) (by omega) (by omega)]
      rcases ilg a (b - 1) with q | q
      · rw [ih (b := b - 1) (fun i h1 h2 => hgh i h1 (by omega)) q (by omega)]
      · rw [mxr_0 g q, mxr_0 h q]
  · rw [mxr_0 g hab, mxr_0 h hab]
/-- a greatest that is more than 0, or is reached, is reached -/
theorem mxr_hit {g : Int → Int} {a b : Int} (hg : ∀ i, a ≤ i → i < b → 0 ≤ g i) (hab : a < b) : ∃ i, a ≤ i ∧ i < b ∧ g i = mxr g a b := by
  obtain ⟨d, hd⟩ := Int.eq_ofNat_of_zero_le (show 0 ≤ b - a - 1 by omega)
  induction d generalizing b with
  | zero =>
    have e := mxr_s g (a := a) (b := a) (Int.le_refl _)
    rw [mxr_0 g (Int.le_refl a)] at e
    refine ⟨a, Int.le_refl _, hab, ?_⟩
    rw [show b = a + 1 by omega, e]
    have := hg a (Int.le_refl _) hab
    omega
  | succ d ih =>
    have e := mxr_s g (a := a) (b := b - 1) (by omega)
    rw [show b - 1 + 1 = b by omega] at e
    obtain ⟨i, h1, h2, h3⟩ := ih (b := b - 1) (fun i h1 h2 => hg i h1 (by omega)) (by omega) (by omega)
    rcases ilg (mxr g a (b - 1)) (g (b - 1)) with q | q
    · exact ⟨b - 1, by omega, by omega, by rw [e]; omega⟩
    · exact ⟨i, h1, by omega, by rw [e]; omega⟩
def smn (g : Int → Int) : Nat → Int
  | 0 => 0
  | n + 1 => smn g n + g (n : Int)
def sm (g : Int → Int) (n : Int) : Int := smn g n.toNat
theorem sm_0 (g : Int → Int) : sm g 0 = 0 := rfl
theorem sm_s (g : Int → Int) {n : Int} (h : 0 ≤ n) : sm g (n + 1) = sm g n + g n := by
  obtain ⟨q, rfl⟩ := Int.eq_ofNat_of_zero_le h
  rfl
theorem sm_rg {g : Int → Int} {n c : Int} (h0 : 0 ≤ n) (hg : ∀ i, 0 ≤ i → i < n → 0 ≤ g i ∧ g i ≤ c) : 0 ≤ sm g n ∧ sm g n ≤ c * n := by
  obtain ⟨q, rfl⟩ := Int.eq_ofNat_of_zero_le h0
  induction q with
  | zero => exact ⟨Int.le_refl 0, by show (0 : Int) ≤ c * 0; omega⟩
  | succ q ih =>
    have h1 := ih (by omega) (fun i a b => hg i a (by omega))
    have h2 := hg q (by omega) (by omega)
    have e : sm g ((q + 1 : Nat) : Int) = sm g q + g q := rfl
    have e2 : c * ((q + 1 : Nat) : Int) = c * (q : Int) + c := by
      rw [show ((q + 1 : Nat) : Int) = (q : Int) + 1 by omega, Int.mul_add, Int.mul_one]
    rw [e, e2]
    omega
theorem sm_mono {g : Int → Int} {n m : Int} (h0 : 0 ≤ n) (hm : n ≤ m) (hg : ∀ i, n ≤ i → i < m → 0 ≤ g i) : sm g n ≤ sm g m := by
  obtain ⟨d, hd⟩ := Int.eq_ofNat_of_zero_le (show 0 ≤ m - n by omega)
  induction d generalizing m with
  | zero => rw [show m = n by omega]; exact Int.le_refl _
  | succ d ih =>
    have e := sm_s g (n := m - 1) (by omega)
    rw [show m - 1 + 1 = m by omega] at e
    have := ih (m := m - 1) (by omega) (fun i a b => hg i a (by omega)) (by omega)
    have := hg (m - 1) (by omega) (by omega)
    omega
theorem sm_cong {g h : Int → Int} {n : Int} (hgh : ∀ i, 0 ≤ i → i < n → g i = h i) : sm g n = sm h n := by
  unfold sm
  have key : ∀ q : Nat, (q : Int) ≤ n ∨ q = 0 → smn g q = smn h q := by
    intro q
    induction q with
    | zero => intro _; rfl
    | succ q ih =>
      intro hq
      show smn g q + g q = smn h q + h q
      rw [ih (by omega), hgh q (by omega) (by omega)]
  exact key _ (by omega)
