/-! ===== every place has one outcome ===== -/
def OutF (tn : Int) (tx : Int → Int) (a f : Int) : Prop := (0 ≤ f ∧ f ≤ tn) ∧ ∀ F K, F f → Arc tn tx a F K
def GK (tn : Int) (tx : Int → Int) (a v n1 n2 wf we' nx : Int) : Prop := (0 ≤ v ∧ v < 9) ∧ (0 ≤ n1 ∧ n1 ≤ 999) ∧ (0 ≤ n2 ∧ n2 ≤ 999) ∧ (0 ≤ wf ∧ wf < we' ∧ we' ≤ tn) ∧ (v = 0 → we' - wf ≤ 24) ∧ (v = 6 → n2 = wy tx wf we' ∧ n2 < 4) ∧ (sb tn tx a < nx ∧ nx ≤ tn)
def OutK (tn : Int) (tx : Int → Int) (a v n1 n2 wf we' nx : Int) : Prop := GK tn tx a v n1 n2 wf we' nx ∧ ∀ F K, K v n1 n2 wf we' nx → Arc tn tx a F K
def Dt (tn : Int) (G : Int → Int → Int → Int → Int → Int → Prop) (T : (Int → Prop) → (Int → Int → Int → Int → Int → Int → Prop) → Prop) : Prop := (∃ f, (0 ≤ f ∧ f ≤ tn) ∧ ∀ F K, F f → T F K) ∨ ∃ v n1 n2 wf we' nx, G v n1 n2 wf we' nx ∧ ∀ F K, K v n1 n2 wf we' nx → T F K
section DTT
variable {tn a : Int} {tx : Int → Int} {G : Int → Int → Int → Int → Int → Int → Prop}
theorem Dt.imp {T T2 : (Int → Prop) → (Int → Int → Int → Int → Int → Int → Prop) → Prop} (h : Dt tn G T) (hi : ∀ F K, T F K → T2 F K) : Dt tn G T2 := by
  rcases h with ⟨f, h1, h2⟩ | ⟨v, n1, n2, wf, we', nx, h1, h2⟩
  · exact Or.inl ⟨f, h1, fun F K hF => hi F K (h2 F K hF)⟩
  · exact Or.inr ⟨v, n1, n2, wf, we', nx, h1, fun F K hK => hi F K (h2 F K hK)⟩
theorem Dt_w (ha : 0 ≤ a ∧ a ≤ tn) {T : Int → Int → (Int → Prop) → (Int → Int → Int → Int → Int → Int → Prop) → Prop} (h : ∀ f e, f = sb tn tx a → e = we tn tx f → f < e → (a ≤ f ∧ e ≤ tn) → Dt tn G (T f e)) : Dt tn G (fun F K => Aw tn tx a F (fun f e => T f e F K)) := by
  have hr := sb_rg (tx := tx) ha.2
  have hr2 := we_rg (tx := tx) hr.2
  by_cases hc : sb tn tx a < we tn tx (sb tn tx a)
  · exact (h _ _ rfl rfl hc (by omega)).imp (fun F K hT => ⟨fun z => absurd hc z, fun _ => hT⟩)
  · exact Or.inl ⟨sb tn tx a, by omega, fun F K hF => ⟨fun _ => hF, fun z => absurd z hc⟩⟩
theorem Dt_n (ha : 0 ≤ a ∧ a ≤ tn) {T : Int → Int → Int → (Int → Prop) → (Int → Int → Int → Int → Int → Int → Prop) → Prop} (h : ∀ n f e, f < e → (a ≤ f ∧ e ≤ tn) → (0 ≤ n ∧ n ≤ 999) → Dt tn G (T n f e)) : Dt tn G (fun F K => An tn tx a F (fun n f e => T n f e F K)) := by
  refine Dt_w ha (fun f e h1 h2 h3 h4 => ?_)
  by_cases hc : nOk tx f e
  · exact (h _ f e h3 h4 (nv_rg (by omega) hc.1 hc.2.2)).imp (fun F K hT => ⟨fun z => absurd hc z, fun _ => hT⟩)
  · exact Or.inl ⟨f, by omega, fun F K hF => ⟨fun _ => hF, fun z => absurd z hc⟩⟩
theorem Dt_e (ha : 0 ≤ a ∧ a ≤ tn) {T : Int → (Int → Prop) → (Int → Int → Int → Int → Int → Int → Prop) → Prop} (h : ∀ nx, a < nx → nx ≤ tn → Dt tn G (T nx)) : Dt tn G (fun F K => Ae tn tx a F (fun nx => T nx F K)) := by
  have hr := sb_rg (tx := tx) ha.2
  by_cases hc : sb tn tx a < tn ∧ tx (sb tn tx a) = 59
  · exact (h (sb tn tx a + 1) (by omega) (by omega)).imp (fun F K hT => ⟨fun z => absurd hc z, fun _ => hT⟩)
  · exact Or.inl ⟨sb tn tx a, by omega, fun F K hF => ⟨fun _ => hF, fun z => absurd z hc⟩⟩
theorem Dt_k {v n1 n2 wf we' nx : Int} (hG : G v n1 n2 wf we' nx) : Dt tn G (fun _ K => K v n1 n2 wf we' nx) := Or.inr ⟨v, n1, n2, wf, we', nx, hG, fun _ _ h => h⟩
theorem outs (ha : 0 ≤ a ∧ a ≤ tn) : (∃ f, OutF tn tx a f) ∨ ∃ v n1 n2 wf we' nx, OutK tn tx a v n1 n2 wf we' nx := by
  refine (?_ : Dt tn (GK tn tx a) (Arc tn tx a))
  refine Dt_w ha (fun f e h1 h2 h3 h4 => ?_)
  have hvb := vb_rg (tx := tx) (f := f) (e := e)
  rcases ilg (vb tx f e) 0 with hv | hv
  · exact Or.inl ⟨f, by omega, fun F K hF => ⟨fun _ => hF, fun z => by omega⟩⟩
  generalize vb tx f e = v at *
  refine Dt.imp (T := fun F K => An tn tx e F (fun n1 f2 e2 => Ar tn tx v n1 f2 e2 F K)) ?_ (fun F K hT => ⟨fun z => by omega, fun _ => hT⟩)
  refine Dt_n (by omega) (fun n1 f2 e2 p1 p2 p3 => ?_)
  by_cases c0 : v = 0
  · refine Dt.imp (T := fun F K => Aw tn tx e2 F (fun f3 e3 => (24 < e3 - f3 → F f3) ∧ (¬ 24 < e3 - f3 → Ae tn tx e3 F (fun nx => K v n1 0 f3 e3 nx)))) ?_ (fun F K hT => ⟨fun _ => hT, fun z => by omega, fun z => by omega, fun z => by omega, fun z => by omega⟩)
    refine Dt_w (by omega) (fun f3 e3 q1 q2 q3 q4 => ?_)
    rcases ilg 24 (e3 - f3) with w | w
    · exact Or.inl ⟨f3, by omega, fun F K hF => ⟨fun _ => hF, fun z => absurd w z⟩⟩
    · exact (Dt_e (by omega) (fun nx r1 r2 => Dt_k ⟨by omega, p3, by omega, by omega, fun _ => w, fun z => by omega, by omega⟩)).imp (fun F K hT => ⟨fun z => by omega, fun _ => hT⟩)
  by_cases c25 : v = 2 ∨ v = 5
  · refine Dt.imp (T := fun F K => An tn tx e2 F (fun n2 f3 e3 => Ae tn tx e3 F (fun nx => K v n1 n2 f3 e3 nx))) ?_ (fun F K hT => ⟨fun z => by omega, fun _ => hT, fun z => by omega, fun z => by omega, fun z => by omega⟩)
    exact Dt_n (by omega) (fun n2 f3 e3 q1 q2 q3 => Dt_e (by omega) (fun nx r1 r2 => Dt_k ⟨by omega, p3, q3, by omega, fun z => by omega, fun z => by omega, by omega⟩))
  by_cases c4 : v = 4
  · refine Dt.imp (T := fun F K => An tn tx e2 F (fun n2 f3 e3 => Aw tn tx e3 F (fun f4 e4 => (¬ e4 - f4 = 1 → F f4) ∧ (e4 - f4 = 1 → Ae tn tx e4 F (fun nx => K v n1 n2 f4 e4 nx))))) ?_ (fun F K hT => ⟨fun z => by omega, fun z => by omega, fun _ => hT, fun z => by omega, fun z => by omega⟩)
    refine Dt_n (by omega) (fun n2 f3 e3 q1 q2 q3 => Dt_w (by omega) (fun f4 e4 s1 s2 s3 s4 => ?_))
    by_cases w : e4 - f4 = 1
    · exact (Dt_e (by omega) (fun nx r1 r2 => Dt_k ⟨by omega, p3, q3, by omega, fun z => by omega, fun z => by omega, by omega⟩)).imp (fun F K hT => ⟨fun z => absurd w z, fun _ => hT⟩)
    · exact Or.inl ⟨f4, by omega, fun F K hF => ⟨fun _ => hF, fun z => absurd z w⟩⟩
  by_cases c6 : v = 6
  · refine Dt.imp (T := fun F K => Aw tn tx e2 F (fun f3 e3 => (wy tx f3 e3 < 0 → F f3) ∧ (0 ≤ wy tx f3 e3 → Ae tn tx e3 F (fun nx => K v n1 (wy tx f3 e3) f3 e3 nx)))) ?_ (fun F K hT => ⟨fun z => by omega, fun z => by omega, fun z => by omega, fun _ => hT, fun z => by omega⟩)
    refine Dt_w (by omega) (fun f3 e3 q1 q2 q3 q4 => ?_)
    have hwy := wy_rg (tx := tx) (f := f3) (e := e3)
    rcases ilg (wy tx f3 e3) 0 with w | w
    · exact Or.inl ⟨f3, by omega, fun F K hF => ⟨fun _ => hF, fun z => by omega⟩⟩
    · exact (Dt_e (by omega) (fun nx r1 r2 => Dt_k ⟨by omega, p3, by omega, by omega, fun z => by omega, fun _ => ⟨rfl, by omega⟩, by omega⟩)).imp (fun F K hT => ⟨fun z => by omega, fun _ => hT⟩)
  · refine Dt.imp (T := fun F K => Ae tn tx e2 F (fun nx => K v n1 0 f2 e2 nx)) ?_ (fun F K hT => ⟨fun z => by omega, fun z => by omega, fun z => by omega, fun z => by omega, fun _ => hT⟩)
    exact Dt_e (by omega) (fun nx r1 r2 => Dt_k ⟨by omega, p3, by omega, by omega, fun z => by omega, fun z => by omega, by omega⟩)
theorem Arc_sb {F : Int → Prop} {K : Int → Int → Int → Int → Int → Int → Prop} (ha : a ≤ tn) (h : Arc tn tx a F K) : Arc tn tx (sb tn tx a) F K := by
  unfold Arc Aw
  rw [sb_sb ha]
  exact h
end DTT
/-- the places from a on: n commands, then a fault at f, or the text's end (f = -9) -/
def Cf (tn : Int) (tx : Int → Int) : Nat → Int → Int → Prop
  | 0, a, f => (tn ≤ sb tn tx a ∧ f = -9) ∨ (sb tn tx a < tn ∧ OutF tn tx a f)
  | n + 1, a, f => sb tn tx a < tn ∧ ∃ v n1 n2 wf we' nx, OutK tn tx a v n1 n2 wf we' nx ∧ Cf tn tx n nx f
theorem Cf_ex {tn : Int} {tx : Int → Int} : ∀ (t : Nat) (a : Int), 0 ≤ a → a ≤ tn → tn - a ≤ t → ∃ n f, Cf tn tx n a f
  | 0, a, h0, h1, h2 => by
    have := sb_rg (tx := tx) h1
    exact ⟨0, -9, Or.inl ⟨by omega, rfl⟩⟩
  | t + 1, a, h0, h1, h2 => by
    have hr := sb_rg (tx := tx) h1
    rcases ilg (sb tn tx a) tn with hc | hc
    · rcases outs (tx := tx) ⟨h0, h1⟩ with ⟨f, hf⟩ | ⟨v, n1, n2, wf, we', nx, hk⟩
      · exact ⟨0, f, Or.inr ⟨hc, hf⟩⟩
      · have hg := hk.1.2.2.2.2.2.2
        obtain ⟨n, f, h⟩ := Cf_ex t nx (by omega) hg.2 (by omega)
        exact ⟨n + 1, f, hc, v, n1, n2, wf, we', nx, hk, h⟩
    · exact ⟨0, -9, Or.inl ⟨hc, rfl⟩⟩
theorem Cf_rg {tn : Int} {tx : Int → Int} : ∀ (n : Nat) (a f : Int), tn ≤ 150 → Cf tn tx n a f → f = -9 ∨ (0 ≤ f ∧ f ≤ tn)
  | 0, a, f, ht, h => by
    rcases h with ⟨-, h⟩ | ⟨-, h⟩
    · exact Or.inl h
    · exact Or.inr h.1
  | n + 1, a, f, ht, h => by
    obtain ⟨-, v, n1, n2, wf, we', nx, -, h2⟩ := h
    exact Cf_rg n nx f ht h2
/-! ===== the commands done ===== -/
def Tcmd (tx : Int → Int) (v n1 n2 wf we' : Int) (p : Int → Int) (n : Int) (ps : Int → Int → Int) (c : Int) (K : Kt) : Prop :=
  (v = 0 → Tadd p n ps c n1 (if we' - wf = 1 ∧ tx wf = 45 then 0 else we' - wf) (fun i => tx (wf + i)) K) ∧ (v = 1 → Tdro p n ps c n1 K) ∧ (v = 2 → Tspl p n ps c n1 n2 K) ∧ (v = 3 → Tjoi p n ps c n1 K) ∧ (v = 4 → Tput p n ps c n1 n2 (tx wf) K) ∧ (v = 5 → Tcut p n ps c n1 n2 K) ∧ (v = 6 → Tali p n ps c n1 n2 K) ∧ (v = 7 → Tpad p n ps c n1 K) ∧ (v = 8 → Tlea p n ps c n1 K)
theorem d_cmd {tx : Int → Int} {v n1 n2 wf we' : Int} {p : Int → Int} {n : Int} {ps : Int → Int → Int} {c : Int} (hw : WR p) (hv : 0 ≤ v ∧ v < 9) : ∃ r p' n' ps' c', ∀ K : Kt, K r p' n' ps' c' → Tcmd tx v n1 n2 wf we' p n ps c K := by
  have go : ∀ T : Kt → Prop, (∃ r p' n' ps' c', ∀ K : Kt, K r p' n' ps' c' → T K) → (∀ K, T K → Tcmd tx v n1 n2 wf we' p n ps c K) → ∃ r p' n' ps' c', ∀ K : Kt, K r p' n' ps' c' → Tcmd tx v n1 n2 wf we' p n ps c K := by
    rintro T ⟨r, p', n', ps', c', h⟩ hi
    exact ⟨r, p', n', ps', c', fun K hK => hi K (h K hK)⟩
  have hv9 : v = 0 ∨ v = 1 ∨ v = 2 ∨ v = 3 ∨ v = 4 ∨ v = 5 ∨ v = 6 ∨ v = 7 ∨ v = 8 := by omega
  rcases hv9 with h | h | h | h | h | h | h | h | h
  · refine go (Tadd p n ps c n1 (if we' - wf = 1 ∧ tx wf = 45 then 0 else we' - wf) (fun i => tx (wf + i))) ?_ (fun K hT => ⟨fun _ => hT, fun z => by omega, fun z => by omega, fun z => by omega, fun z => by omega, fun z => by omega, fun z => by omega, fun z => by omega, fun z => by omega⟩)
    by_cases hc : 0 ≤ n1 ∧ n1 ≤ p 0 ∧ p 0 < 12
    · exact ⟨_, _, _, _, _, fun K hK => ⟨fun z => absurd hc z, fun _ => hK⟩⟩
    · exact ⟨_, _, _, _, _, fun K hK => ⟨fun _ => hK, fun z => absurd z hc⟩⟩
  · refine go (Tdro p n ps c n1) ?_ (fun K hT => ⟨fun z => by omega, fun _ => hT, fun z => by omega, fun z => by omega, fun z => by omega, fun z => by omega, fun z => by omega, fun z => by omega, fun z => by omega⟩)
    by_cases hc : 0 ≤ n1 ∧ n1 < p 0
    · exact ⟨_, _, _, _, _, fun K hK => ⟨fun z => absurd hc z, fun _ => hK⟩⟩
    · exact ⟨_, _, _, _, _, fun K hK => ⟨fun _ => hK, fun z => absurd z hc⟩⟩
  · exact go (Tspl p n ps c n1 n2) (d_split hw) (fun K hT => ⟨fun z => by omega, fun z => by omega, fun _ => hT, fun z => by omega, fun z => by omega, fun z => by omega, fun z => by omega, fun z => by omega, fun z => by omega⟩)
  · exact go (Tjoi p n ps c n1) d_join (fun K hT => ⟨fun z => by omega, fun z => by omega, fun z => by omega, fun _ => hT, fun z => by omega, fun z => by omega, fun z => by omega, fun z => by omega, fun z => by omega⟩)
  · exact go (Tput p n ps c n1 n2 (tx wf)) (d_put hw) (fun K hT => ⟨fun z => by omega, fun z => by omega, fun z => by omega, fun z => by omega, fun _ => hT, fun z => by omega, fun z => by omega, fun z => by omega, fun z => by omega⟩)
  · exact go (Tcut p n ps c n1 n2) d_cut (fun K hT => ⟨fun z => by omega, fun z => by omega, fun z => by omega, fun z => by omega, fun z => by omega, fun _ => hT, fun z => by omega, fun z => by omega, fun z => by omega⟩)
  · refine go (Tali p n ps c n1 n2) ?_ (fun K hT => ⟨fun z => by omega, fun z => by omega, fun z => by omega, fun z => by omega, fun z => by omega, fun z => by omega, fun _ => hT, fun z => by omega, fun z => by omega⟩)
    by_cases hc : 0 ≤ n1 ∧ n1 < 24
    · exact ⟨_, _, _, _, _, fun K hK => ⟨fun z => absurd hc z, fun _ => hK⟩⟩
    · exact ⟨_, _, _, _, _, fun K hK => ⟨fun _ => hK, fun z => absurd z hc⟩⟩
  · refine go (Tpad p n ps c n1) ?_ (fun K hT => ⟨fun z => by omega, fun z => by omega, fun z => by omega, fun z => by omega, fun z => by omega, fun z => by omega, fun z => by omega, fun _ => hT, fun z => by omega⟩)
    by_cases hc : 0 ≤ n1 ∧ n1 ≤ 4
    · exact ⟨_, _, _, _, _, fun K hK => ⟨fun z => absurd hc z, fun _ => hK⟩⟩
    · exact ⟨_, _, _, _, _, fun K hK => ⟨fun _ => hK, fun z => absurd z hc⟩⟩
  · refine go (Tlea p n ps c n1) ?_ (fun K hT => ⟨fun z => by omega, fun z => by omega, fun z => by omega, fun z => by omega, fun z => by omega, fun z => by omega, fun z => by omega, fun z => by omega, fun _ => hT⟩)
    by_cases hc : 0 ≤ n1 ∧ n1 ≤ 9
    · exact ⟨_, _, _, _, _, fun K hK => ⟨fun z => absurd hc z, fun _ => hK⟩⟩
    · exact ⟨_, _, _, _, _, fun K hK => ⟨fun _ => hK, fun z => absurd z hc⟩⟩
/-- from one state to another by k commands -/
def Cr (tn : Int) (tx : Int → Int) : Nat → Int → (Int → Int) → Int → (Int → Int → Int) → Int → Int → Int → (Int → Int) → Int → (Int → Int → Int) → Int → Int → Prop
  | 0, a, p, n, ps, c, d, a', p', n', ps', c', d' => a = a' ∧ p = p' ∧ n = n' ∧ ps = ps' ∧ c = c' ∧ d = d'
  | k + 1, a, p, n, ps, c, d, a', p', n', ps', c', d' => sb tn tx a < tn ∧ ∃ v n1 n2 wf we' nx, OutK tn tx a v n1 n2 wf we' nx ∧ ∃ r p1 m1 qs c1, (∀ K : Kt, K r p1 m1 qs c1 → Tcmd tx v n1 n2 wf we' p n ps c K) ∧ Cr tn tx k nx p1 m1 qs c1 (if r < 0 then d else d + 1) a' p' n' ps' c' d'
theorem Cr_sn {tn : Int} {tx : Int → Int} {a' : Int} {p' : Int → Int} {n' : Int} {ps' : Int → Int → Int} {c' d' v n1 n2 wf we' nx r : Int} {p1 : Int → Int} {m1 : Int} {qs : Int → Int → Int} {c1 : Int} (hs : sb tn tx a' < tn) (hk : OutK tn tx a' v n1 n2 wf we' nx) (hT : ∀ K : Kt, K r p1 m1 qs c1 → Tcmd tx v n1 n2 wf we' p' n' ps' c' K) : ∀ (k : Nat) (a : Int) (p : Int → Int) (n : Int) (ps : Int → Int → Int) (c d : Int), Cr tn tx k a p n ps c d a' p' n' ps' c' d' → Cr tn tx (k + 1) a p n ps c d nx p1 m1 qs c1 (if r < 0 then d' else d' + 1)
  | 0, a, p, n, ps, c, d, h => by
    obtain ⟨rfl, rfl, rfl, rfl, rfl, rfl⟩ := h
    exact ⟨hs, v, n1, n2, wf, we', nx, hk, r, p1, m1, qs, c1, hT, rfl, rfl, rfl, rfl, rfl, rfl⟩
  | k + 1, a, p, n, ps, c, d, h => by
    obtain ⟨g1, v2, x1, x2, x3, x4, x5, g2, r2, y1, y2, y3, y4, g3, g4⟩ := h
    exact ⟨g1, v2, x1, x2, x3, x4, x5, g2, r2, y1, y2, y3, y4, g3, Cr_sn hs hk hT k x5 y1 y2 y3 y4 _ g4⟩
