/-! THE LAW'S agrees answers 1 -/
theorem rRi_z {P S : Nat → Prop} {σ : Nat → Int} {RA : Int → Nat} {cl : List Nat} {t t' : xTh} {M : xMe} {r : Nat} {A : yA} (h : rRi P S σ RA cl t M r A) (e : t'.2 = t.2) : rRi P S σ RA cl t' M r A := by
  obtain ⟨z, u⟩ := t
  obtain ⟨z', u'⟩ := t'
  have e : u' = u := e
  subst e
  exact h
theorem oX11_z {t t' : xTh} {x : Nat} (h : oX11 t x ∧ oXQ t x) (e : t'.2 = t.2) : oX11 t' x ∧ oXQ t' x := by
  obtain ⟨z, u⟩ := t
  obtain ⟨z', u'⟩ := t'
  have e : u' = u := e
  subst e
  exact h
section RAG
variable {P S : Nat → Prop} {σ : Nat → Int} {RA : Int → Nat} {cl : List Nat} {t : xTh} {M : xMe} {r x F n : Nat} {A : yA} {Q : Int → xTh → xMe → Prop} {K1 : Nat → Nat → Nat → Int → xTh → xMe → Prop} {K2 K3 : Nat → Nat → Nat → Int → Int → xTh → xMe → Prop} {f g p w : Int}
theorem a_state (hF : 50 ≤ F) (hc : yCR (x + 44) M A) (hI : yI A) (w0 : 0 ≤ w) (w1 : w < 10) (hq : Q (yAs A w) t M) : p_L_state F t x w M Q := s_X11_state hF hc hI (fun _ _ => hq) (fun q => absurd ⟨w0, by omega⟩ q)
theorem a_flow (hF : 50 ≤ F) (hc : yCR (x + 44) M A) (hI : yI A) (f0 : 0 ≤ f) (f1 : f < yS A 2) (w0 : 0 ≤ w) (w1 : w < 6) (hq : Q (yAf A f w) t M) : p_L_flow F t x f w M Q := s_X11_flow hF hc hI (fun _ _ _ _ => hq) (fun q => absurd ⟨f0, f1⟩ q) (fun _ _ q => absurd ⟨w0, by omega⟩ q)
theorem a_packet (hc : yCR (x + 44) M A) (hI : yI A) (f0 : 0 ≤ f) (f1 : f < yS A 3) (w0 : 0 ≤ w) (w1 : w < 7) (hq : Q (yAp A f w) t M) : p_L_packet t x f w M Q := s_X11_packet hc hI (fun _ _ _ _ => hq) (fun q => absurd ⟨f0, f1⟩ q) (fun _ _ q => absurd ⟨w0, by omega⟩ q)
theorem a_coupon (hc : yCR (x + 44) M A) (hI : yI A) (f0 : 0 ≤ f) (f1 : f < (yC A).length) (w0 : 0 ≤ w) (w1 : w < 4) (hq : Q (yAc A f w) t M) : p_L_coupon t x f w M Q := s_X11_coupon hc hI (fun _ _ _ _ => hq) (fun q => absurd ⟨f0, f1⟩ q) (fun _ _ q => absurd ⟨w0, by omega⟩ q)
theorem a_tokens (hc : yCR (x + 44) M A) (hN : yN A) (g0 : 0 ≤ g) (g1 : g < yS A 1) (f0 : 0 ≤ f) (f1 : f < yS A 2) (hq : Q (yS A (561 + 4 * (6 * g + f))) t M) : p_L_tokens t x g f M Q := s_X11_tokens hc hN (fun _ _ _ _ => hq) (fun q => absurd ⟨g0, g1⟩ q) (fun _ _ q => absurd ⟨f0, f1⟩ q)
theorem a_queue (hc : yCR (x + 44) M A) (hN : yN A) (g0 : 0 ≤ g) (g1 : g < yS A 1) (f0 : 0 ≤ f) (f1 : f < yS A 2) (hq : Q ((yQ A (6 * g + f)).length : Int) t M) : p_L_queue t x g f M Q := s_X11_queue hc hN (fun _ _ _ _ => hq) (fun q => absurd ⟨g0, g1⟩ q) (fun _ _ q => absurd ⟨f0, f1⟩ q)
theorem g_31 (hF : 60 ≤ F) (hc : yCR (x + 44) M A) (h : rRi P S σ RA cl t M r A) (hI : yI A) (hX : oX11 t x ∧ oXQ t x) : ∀ (d k n : Nat) (i : Int), i + d = 10 → 0 ≤ i → d < k → d ≤ n → (∀ n', n ≤ n' + d → K1 n' x r 1 t M) → p_L_agrees_31 F Q K1 k n x r 1 i t M := by
  intro d
  induction d with
  | zero =>
    intro k n i hi h0 hk hn hq
    obtain ⟨k, rfl⟩ : ∃ k', k = k' + 1 := ⟨k - 1, by omega⟩
    unfold p_L_agrees_31
    exact ⟨fun _ => hq n (Nat.le_refl _), fun q => by omega⟩
  | succ d ih =>
    intro k n i hi h0 hk hn hq
    obtain ⟨k, rfl⟩ : ∃ k', k = k' + 1 := ⟨k - 1, by omega⟩
    unfold p_L_agrees_31
    refine ⟨fun q => by omega, fun _ => ⟨fun q => absurd q (by decide), fun _ => ⟨⟨by omega, hX⟩, a_state (by omega) hc hI h0 (by omega) (fun _ _ => ⟨0, by omega, s_told h hI (by omega) h0 (by omega) ?_⟩)⟩⟩⟩
    exact ⟨fun q => absurd rfl q, fun _ => ⟨⟨by omega, by omega⟩, ih k (n - 1 - 0) (i + 1) (by omega) (by omega) (by omega) (by omega) (fun n' hn' => hq n' (by omega))⟩⟩
theorem g_84 (hF : 60 ≤ F) (hc : yCR (x + 44) M A) (h : rRi P S σ RA cl t M r A) (hI : yI A) (hX : oX11 t x ∧ oXQ t x) (f0 : 0 ≤ f) (f1 : f < yS A 2) : ∀ (d k n : Nat) (i : Int), i + d = 6 → 0 ≤ i → d < k → 2 * d ≤ n → (∀ n', n ≤ n' + 2 * d → K2 n' x r 1 f t M) → p_L_agrees_84 F Q K3 K2 K1 k n x r 1 f i t M := by
  intro d
  induction d with
  | zero =>
    intro k n i hi h0 hk hn hq
    obtain ⟨k, rfl⟩ : ∃ k', k = k' + 1 := ⟨k - 1, by omega⟩
    unfold p_L_agrees_84
    exact ⟨fun _ => hq n (Nat.le_refl _), fun q => by omega⟩
  | succ d ih =>
    intro k n i hi h0 hk hn hq
    obtain ⟨k, rfl⟩ : ∃ k', k = k' + 1 := ⟨k - 1, by omega⟩
    unfold p_L_agrees_84
    refine ⟨fun q => by omega, fun _ => ⟨fun q => absurd q (by decide), fun _ => ⟨⟨by omega, hX⟩, a_flow (by omega) hc hI f0 f1 h0 (by omega) (fun _ _ => ⟨0, by omega, s_flow h hI (by omega) f0 f1 h0 (by omega) ?_⟩)⟩⟩⟩
    exact ⟨fun q => absurd rfl q, fun _ => ⟨⟨by omega, by omega⟩, ih k (n - 2 - 0) (i + 1) (by omega) (by omega) (by omega) (by omega) (fun n' hn' => hq n' (by omega))⟩⟩
theorem g_68 (hF : 60 ≤ F) (hc : yCR (x + 44) M A) (h : rRi P S σ RA cl t M r A) (hI : yI A) (hX : oX11 t x ∧ oXQ t x) : ∀ (d k n : Nat) (i : Int), i + d = yS A 2 → 0 ≤ i → d < k → 12 * d ≤ n → (∀ n', n ≤ n' + 12 * d → K1 n' x r 1 t M) → p_L_agrees_68 F Q K1 k n x r 1 i t M := by
  obtain ⟨n1, n2, n3, n4, n5, n6⟩ := id hI.1.1
  obtain ⟨a, a1, a2, a3, -⟩ := rRi_fl h
  intro d
  induction d with
  | zero =>
    intro k n i hi h0 hk hn hq
    obtain ⟨k, rfl⟩ : ∃ k', k = k' + 1 := ⟨k - 1, by omega⟩
    unfold p_L_agrees_68
    exact ⟨a, a1, a2, ⟨by omega, by omega⟩, fun _ => hq n (Nat.le_refl _), fun q => by omega⟩
  | succ d ih =>
    intro k n i hi h0 hk hn hq
    obtain ⟨k, rfl⟩ : ∃ k', k = k' + 1 := ⟨k - 1, by omega⟩
    unfold p_L_agrees_68
    refine ⟨a, a1, a2, ⟨by omega, by omega⟩, fun q => by omega, fun _ => ⟨fun q => absurd q (by decide), fun _ => ?_⟩⟩
    exact g_84 hF hc h hI hX h0 (by omega) 6 F n 0 rfl (by decide) (by omega) (by omega) (fun n' hn' => ⟨⟨by omega, by omega⟩, ih k n' (i + 1) (by omega) (by omega) (by omega) (by omega) (fun n2 hn2 => hq n2 (by omega))⟩)
theorem g_148 (hF : 60 ≤ F) (hc : yCR (x + 44) M A) (h : rRi P S σ RA cl t M r A) (hI : yI A) (hX : oX11 t x ∧ oXQ t x) (f0 : 0 ≤ f) (f1 : f < yS A 3) : ∀ (d k n : Nat) (i : Int), i + d = 7 → 0 ≤ i → d < k → 2 * d ≤ n → (∀ n', n ≤ n' + 2 * d → K2 n' x r 1 f t M) → p_L_agrees_148 F Q K3 K2 K1 k n x r 1 f i t M := by
  intro d
  induction d with
  | zero =>
    intro k n i hi h0 hk hn hq
    obtain ⟨k, rfl⟩ : ∃ k', k = k' + 1 := ⟨k - 1, by omega⟩
    unfold p_L_agrees_148
    exact ⟨fun _ => hq n (Nat.le_refl _), fun q => by omega⟩
  | succ d ih =>
    intro k n i hi h0 hk hn hq
    obtain ⟨k, rfl⟩ : ∃ k', k = k' + 1 := ⟨k - 1, by omega⟩
    unfold p_L_agrees_148
    refine ⟨fun q => by omega, fun _ => ⟨fun q => absurd q (by decide), fun _ => ⟨⟨by omega, hX⟩, a_packet hc hI f0 f1 h0 (by omega) (fun _ _ => ⟨0, by omega, s_packet h hI f0 f1 h0 (by omega) ?_⟩)⟩⟩⟩
    exact ⟨fun q => absurd rfl q, fun _ => ⟨⟨by omega, by omega⟩, ih k (n - 2 - 0) (i + 1) (by omega) (by omega) (by omega) (by omega) (fun n' hn' => hq n' (by omega))⟩⟩
theorem g_132 (hF : 60 ≤ F) (hc : yCR (x + 44) M A) (h : rRi P S σ RA cl t M r A) (hI : yI A) (hX : oX11 t x ∧ oXQ t x) : ∀ (d k n : Nat) (i : Int), i + d = yS A 3 → 0 ≤ i → d < k → 14 * d ≤ n → (∀ n', n ≤ n' + 14 * d → K1 n' x r 1 t M) → p_L_agrees_132 F Q K1 k n x r 1 i t M := by
  obtain ⟨n1, n2, n3, n4, n5, n6⟩ := id hI.1.1
  obtain ⟨a, a1, a2, a3, -⟩ := rRi_pk h
  intro d
  induction d with
  | zero =>
    intro k n i hi h0 hk hn hq
    obtain ⟨k, rfl⟩ : ∃ k', k = k' + 1 := ⟨k - 1, by omega⟩
    unfold p_L_agrees_132
    exact ⟨a, a1, a2, ⟨by omega, by omega⟩, fun _ => hq n (Nat.le_refl _), fun q => by omega⟩
  | succ d ih =>
    intro k n i hi h0 hk hn hq
    obtain ⟨k, rfl⟩ : ∃ k', k = k' + 1 := ⟨k - 1, by omega⟩
    unfold p_L_agrees_132
    refine ⟨a, a1, a2, ⟨by omega, by omega⟩, fun q => by omega, fun _ => ⟨fun q => absurd q (by decide), fun _ => ?_⟩⟩
    exact g_148 hF hc h hI hX h0 (by omega) 7 F n 0 rfl (by decide) (by omega) (by omega) (fun n' hn' => ⟨⟨by omega, by omega⟩, ih k n' (i + 1) (by omega) (by omega) (by omega) (by omega) (fun n2 hn2 => hq n2 (by omega))⟩)
theorem g_212 (hF : 60 ≤ F) (hc : yCR (x + 44) M A) (h : rRi P S σ RA cl t M r A) (hI : yI A) (hX : oX11 t x ∧ oXQ t x) {j : Nat} (f1 : j < (yC A).length) : ∀ (d k n : Nat) (i : Int), i + d = 4 → 0 ≤ i → d < k → 2 * d ≤ n → (∀ n', n ≤ n' + 2 * d → K2 n' x r 1 (j : Int) t M) → p_L_agrees_212 F Q K3 K2 K1 k n x r 1 (j : Int) i t M := by
  obtain ⟨b, b1, b2, b3, b4⟩ := rRi_co h
  have hv : (yC A)[j]? = some (yC A)[j] := List.getElem?_eq_getElem f1
  obtain ⟨c, c1, -, c2, c3, c4, c5, c6, c7⟩ := b4 j _ hv
  intro d
  induction d with
  | zero =>
    intro k n i hi h0 hk hn hq
    obtain ⟨k, rfl⟩ : ∃ k', k = k' + 1 := ⟨k - 1, by omega⟩
    unfold p_L_agrees_212
    exact ⟨fun _ => hq n (Nat.le_refl _), fun q => by omega⟩
  | succ d ih =>
    intro k n i hi h0 hk hn hq
    obtain ⟨k, rfl⟩ : ∃ k', k = k' + 1 := ⟨k - 1, by omega⟩
    have e : yAc A (j : Int) i = M c i.toNat := by
      rw [yAc_at hv]
      have : i = 0 ∨ i = 1 ∨ i = 2 ∨ i = 3 := by omega
      rcases this with rfl | rfl | rfl | rfl
      · exact c4.symm
      · exact c5.symm
      · exact c6.symm
      · exact c7.symm
    unfold p_L_agrees_212
    refine ⟨fun q => by omega, fun _ => ⟨fun q => absurd q (by decide), fun _ => ⟨⟨by omega, hX⟩, a_coupon hc hI (by omega) (by omega) h0 (by omega) (fun _ _ => ⟨b, b1, b2, ⟨by omega, by omega⟩, c, by rw [Int.toNat_natCast]; exact c1, c2, ⟨by omega, by omega⟩, ?_⟩)⟩⟩⟩
    exact ⟨fun q => absurd e q, fun _ => ⟨⟨by omega, by omega⟩, ih k (n - 2) (i + 1) (by omega) (by omega) (by omega) (by omega) (fun n' hn' => hq n' (by omega))⟩⟩
theorem g_196 (hF : 60 ≤ F) (hc : yCR (x + 44) M A) (h : rRi P S σ RA cl t M r A) (hI : yI A) (hX : oX11 t x ∧ oXQ t x) : ∀ (d k n i : Nat), i + d = (yC A).length → d < k → 8 * d ≤ n → (∀ n', n ≤ n' + 8 * d → K1 n' x r 1 t M) → p_L_agrees_196 F Q K1 k n x r 1 (i : Int) t M := by
  have h5 := hI.2.2.2.2.1.1
  obtain ⟨b, b1, b2, b3, b4⟩ := rRi_co h
  intro d
  induction d with
  | zero =>
    intro k n i hi hk hn hq
    obtain ⟨k, rfl⟩ : ∃ k', k = k' + 1 := ⟨k - 1, by omega⟩
    unfold p_L_agrees_196
    exact ⟨b, b1, b2, ⟨by omega, by omega⟩, fun _ => hq n (Nat.le_refl _), fun q => by omega⟩
  | succ d ih =>
    intro k n i hi hk hn hq
    obtain ⟨k, rfl⟩ : ∃ k', k = k' + 1 := ⟨k - 1, by omega⟩
    unfold p_L_agrees_196
    refine ⟨b, b1, b2, ⟨by omega, by omega⟩, fun q => by omega, fun _ => ⟨fun q => absurd q (by decide), fun _ => ?_⟩⟩
    exact g_212 hF hc h hI hX (by omega) 4 F n 0 rfl (by decide) (by omega) (by omega) (fun n' hn' => ⟨⟨by omega, by omega⟩, ih k n' (i + 1) (by omega) (by omega) (by omega) (fun n2 hn2 => hq n2 (by omega))⟩)
theorem g_277 (hF : 60 ≤ F) (hc : yCR (x + 44) M A) (h : rRi P S σ RA cl t M r A) (hI : yI A) (hx : yQx A) (hX : oX11 t x ∧ oXQ t x) (g0 : 0 ≤ g) (g1 : g < yS A 1) : ∀ (d k n : Nat) (i : Int), i + d = yS A 2 → 0 ≤ i → d < k → 4 * d ≤ n → (∀ n', n ≤ n' + 4 * d → K2 n' x r 1 g t M) → p_L_agrees_277 F Q K3 K2 K1 k n x r 1 g i t M := by
  obtain ⟨n1, n2, n3, n4, n5, n6⟩ := id hI.1.1
  obtain ⟨a, a1, a2, a3, -⟩ := rRi_fl h
  obtain ⟨b, b1, b2, b3, b4⟩ := rRi_tk h
  obtain ⟨c1, c2, c3, c4⟩ := b4 g g0 (by omega)
  intro d
  induction d with
  | zero =>
    intro k n i hi h0 hk hn hq
    obtain ⟨k, rfl⟩ : ∃ k', k = k' + 1 := ⟨k - 1, by omega⟩
    unfold p_L_agrees_277
    exact ⟨a, a1, a2, ⟨by omega, by omega⟩, fun _ => hq n (Nat.le_refl _), fun q => by omega⟩
  | succ d ih =>
    intro k n i hi h0 hk hn hq
    obtain ⟨k, rfl⟩ : ∃ k', k = k' + 1 := ⟨k - 1, by omega⟩
    unfold p_L_agrees_277
    refine ⟨a, a1, a2, ⟨by omega, by omega⟩, fun q => by omega, fun _ => ⟨fun q => absurd q (by decide), fun _ => ⟨⟨by omega, hX⟩, a_tokens hc hI.1.1 g0 g1 h0 (by omega) (fun _ _ => ⟨b, b1, b2, ⟨g0, by omega⟩, _, c1, c2, ⟨h0, by omega⟩, ?_⟩)⟩⟩⟩
    rw [c4 g1 i h0 (by omega)]
    refine ⟨fun q => absurd rfl q, fun _ => ⟨⟨by omega, hX⟩, a_queue hc hI.1.1 g0 g1 h0 (by omega) (fun _ _ => ⟨0, by omega, s_queue h hI hx (by omega) h0 (by omega) ?_⟩)⟩⟩
    exact ⟨fun q => absurd rfl q, fun _ => ⟨⟨by omega, by omega⟩, ih k (n - 2 - 2 - 0) (i + 1) (by omega) (by omega) (by omega) (by omega) (fun n' hn' => hq n' (by omega))⟩⟩
theorem g_261 (hF : 60 ≤ F) (hc : yCR (x + 44) M A) (h : rRi P S σ RA cl t M r A) (hI : yI A) (hx : yQx A) (hX : oX11 t x ∧ oXQ t x) : ∀ (d k n : Nat) (i : Int), i + d = yS A 1 → 0 ≤ i → d < k → 24 * d ≤ n → (∀ n', n ≤ n' + 24 * d → K1 n' x r 1 t M) → p_L_agrees_261 F Q K1 k n x r 1 i t M := by
  obtain ⟨n1, n2, n3, n4, n5, n6⟩ := id hI.1.1
  obtain ⟨a, a1, a2, a3, -⟩ := rRi_ga h
  intro d
  induction d with
  | zero =>
    intro k n i hi h0 hk hn hq
    obtain ⟨k, rfl⟩ : ∃ k', k = k' + 1 := ⟨k - 1, by omega⟩
    unfold p_L_agrees_261
    exact ⟨a, a1, a2, ⟨by omega, by omega⟩, fun _ => hq n (Nat.le_refl _), fun q => by omega⟩
  | succ d ih =>
    intro k n i hi h0 hk hn hq
    obtain ⟨k, rfl⟩ : ∃ k', k = k' + 1 := ⟨k - 1, by omega⟩
    unfold p_L_agrees_261
    refine ⟨a, a1, a2, ⟨by omega, by omega⟩, fun q => by omega, fun _ => ⟨fun q => absurd q (by decide), fun _ => ?_⟩⟩
    exact g_277 hF hc h hI hx hX h0 (by omega) (yS A 2).toNat F n 0 (by omega) (by decide) (by omega) (by omega) (fun n' hn' => ⟨⟨by omega, by omega⟩, ih k n' (i + 1) (by omega) (by omega) (by omega) (by omega) (fun n2 hn2 => hq n2 (by omega))⟩)
theorem g_345 (hF : 60 ≤ F) (hc : yCR (x + 44) M A) (h : rRi P S σ RA cl t M r A) (hI : yI A) (hX : oX11 t x ∧ oXQ t x) (hn : 8 ≤ n) (hq : ∀ t', t'.2 = t.2 → xlive t' → Q 1 t' M) : p_L_agrees_345 F Q n x r 1 t M := by
  obtain ⟨n1, n2, n3, n4, n5, n6⟩ := id hI.1.1
  have h5 := hI.2.2.2.2.1.1
  obtain ⟨a, a1, a2, a3, -⟩ := rRi_ga h
  unfold p_L_agrees_345
  refine ⟨fun q => absurd q (by decide), fun _ => ⟨a, a1, a2, ⟨by omega, by omega⟩, ⟨by omega, hX⟩, ?_⟩⟩
  rw [a3]
  refine s_X11_gate hc hI.1.1 (fun _ q => absurd q (by omega)) (fun _ z1 => ⟨fun _ _ l1 => ⟨fun q => absurd rfl q, fun _ => ?_⟩, fun q => absurd q (by decide), Or.inl rfl⟩) (fun _ q => absurd q (by omega))
  have e1 : ((z1, t.2) : xTh).2 = t.2 := rfl
  have h1 := rRi_z (t' := (z1, t.2)) h e1
  obtain ⟨b, b1, b2, b3, -⟩ := rRi_fl h1
  refine ⟨b, b1, b2, ⟨by omega, by omega⟩, ⟨by omega, oX11_z hX e1⟩, ?_⟩
  rw [b3]
  refine s_X11_flow (by omega) hc hI (fun _ q => absurd q (by omega)) (fun _ z2 => ⟨fun _ _ l2 => ⟨fun q => absurd rfl q, fun _ => ?_⟩, fun q => absurd q (by decide), Or.inl rfl⟩) (fun _ q => absurd q (by omega))
  have e2 : ((z2, ((z1, t.2) : xTh).2) : xTh).2 = t.2 := rfl
  have h2 := rRi_z (t' := (z2, ((z1, t.2) : xTh).2)) h e2
  obtain ⟨c, c1, c2, c3, -⟩ := rRi_pk h2
  refine ⟨c, c1, c2, ⟨by omega, by omega⟩, ⟨by omega, oX11_z hX e2⟩, ?_⟩
  rw [c3]
  refine s_X11_packet hc hI (fun _ q => absurd q (by omega)) (fun _ z3 => ⟨fun _ _ l3 => ⟨fun q => absurd rfl q, fun _ => ?_⟩, fun q => absurd q (by decide), Or.inl rfl⟩) (fun _ q => absurd q (by omega))
  have e3 : ((z3, ((z2, ((z1, t.2) : xTh).2) : xTh).2) : xTh).2 = t.2 := rfl
  have h3 := rRi_z (t' := (z3, ((z2, ((z1, t.2) : xTh).2) : xTh).2)) h e3
  obtain ⟨d, d1, d2, d3, -⟩ := rRi_co h3
  refine ⟨d, d1, d2, ⟨by omega, by omega⟩, ⟨by omega, oX11_z hX e3⟩, ?_⟩
  rw [d3]
  refine s_X11_coupon hc hI (fun _ q => absurd q (by omega)) (fun _ z4 => ⟨fun _ _ l4 => ⟨fun q => absurd rfl q, fun _ => ?_⟩, fun q => absurd q (by decide), Or.inl rfl⟩) (fun _ q => absurd q (by omega))
  exact hq _ rfl l4
theorem s_agrees (hF : 60 ≤ F) (hc : yCR (x + 44) M A) (h : rRi P S σ RA cl t M r A) (hI : yI A) (hx : yQx A) (hX : oX11 t x ∧ oXQ t x) (hn : 1035 ≤ n) (hq : ∀ t', t'.2 = t.2 → xlive t' → Q 1 t' M) : p_L_agrees F n t x r M Q := by
  obtain ⟨n1, n2, n3, n4, n5, n6⟩ := id hI.1.1
  have h5 := hI.2.2.2.2.1.1
  unfold p_L_agrees
  refine ⟨hX, s_X11_checksum (by omega) hc hI ⟨0, by omega, s_checksum h hI hx (by omega) ⟨rfl, ⟨by omega, hX⟩, ?_⟩⟩⟩
  refine s_X11_state (by omega) hc hI (fun _ q => absurd q (by decide)) (fun _ z1 => ⟨fun _ _ l1 => ⟨fun q => absurd rfl q, fun _ => ?_⟩, rfl⟩)
  have e1 : ((z1, t.2) : xTh).2 = t.2 := rfl
  have h1 := rRi_z (t' := (z1, t.2)) h e1
  have hX1 := oX11_z hX e1
  unfold p_L_agrees_28
  refine g_31 hF hc h1 hI hX1 10 F (n - 0 - 1) 0 rfl (by decide) (by omega) (by omega) (fun m1 hm1 => ?_)
  unfold p_L_agrees_66
  refine g_68 hF hc h1 hI hX1 (yS A 2).toNat F m1 0 (by omega) (by decide) (by omega) (by omega) (fun m2 hm2 => ?_)
  unfold p_L_agrees_130
  refine g_132 hF hc h1 hI hX1 (yS A 3).toNat F m2 0 (by omega) (by decide) (by omega) (by omega) (fun m3 hm3 => ?_)
  unfold p_L_agrees_194
  refine g_196 hF hc h1 hI hX1 (yC A).length F m3 0 (by omega) (by omega) (by omega) (fun m4 hm4 => ?_)
  unfold p_L_agrees_259
  refine g_261 hF hc h1 hI hx hX1 (yS A 1).toNat F m4 0 (by omega) (by decide) (by omega) (by omega) (fun m5 hm5 => ?_)
  exact g_345 hF hc h1 hI hX1 (by omega) (fun t' et' l' => hq t' et' l')
end RAG
