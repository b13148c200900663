/-! SEARCH: laws and cards that are alike give the same lines -/
def AGL (S T : Nat → Nat) : Prop := T 1 = S 1 ∧ T 2 = S 2 ∧ T 4 = S 4 ∧ T 6 = S 6 ∧ T 7 = S 7 ∧ T 8 = S 8 ∧ T 10 = S 10 ∧ (∀ c, c < 4 → T (12 + c) = S (12 + c)) ∧ ∀ i, 64 ≤ i → T i = S i
def XA (S : Nat → Nat) (X Y : Nat → Nat → Nat → Nat) : Prop := ∀ c i j, c < S 1 → i < mmS S c → j < S 1 → Y c i j = X c i j
theorem lfk_T {S T w : Nat → Nat} {k c : Nat} (h : AGL S T) (hc : c < 4) : lfk T w k c = lfk S w k c := by
  unfold lfk
  rw [h.2.2.2.2.2.2.2.1 c hc, h.1, h.2.1]
theorem ixk_T {S T w : Nat → Nat} {k : Nat} (h : AGL S T) (hc : w k < 4) : ixk T w k = ixk S w k := by
  unfold ixk
  rw [lfk_T h hc]
theorem noS_T {S T : Nat → Nat} (h : AGL S T) : noS T = noS S := by
  unfold noS
  rw [h.2.2.2.2.1, h.1]
/-- the tricks are tricks of the heaps -/
def VW (S w q : Nat → Nat) : Prop := ∀ k, k < S 2 → w k < S 1 ∧ 0 < lfk S w (k + 1) (w k) ∧ q k < noS S
theorem VW_T {S T w q : Nat → Nat} (h : AGL S T) (w2 : S 1 ≤ 4) : VW T w q ↔ VW S w q := by
  unfold VW
  rw [h.1, h.2.1, noS_T h]
  constructor
  · intro a k hk
    obtain ⟨b1, b2, b3⟩ := a k hk
    rw [lfk_T h (by omega)] at b2
    exact ⟨b1, b2, b3⟩
  · intro a k hk
    obtain ⟨b1, b2, b3⟩ := a k hk
    rw [lfk_T h (by omega)]
    exact ⟨b1, b2, b3⟩
theorem xcQ_T {S T w q : Nat → Nat} {X Y : Nat → Nat → Nat → Nat} {k j : Nat} (h : AGL S T) (hX : XA S X Y) (wg : WG S) (hV : VW S w q) (hk : k < S 2) (hj : j < S 1) : xcQ T Y w q k j = xcQ S X w q k j := by
  obtain ⟨b1, b2, b3⟩ := hV k hk
  have w2 := wg.2.1
  unfold xcQ
  rw [ixk_T h (by omega), h.1]
  exact hX _ _ _ b1 (way_i b2) (od_in wg.1 w2 b3 hj)
theorem kLd_T {S T : Nat → Nat} {c : Nat} {f : Nat → Nat} (h : AGL S T) : kLd T c f = kLd S c f := by
  unfold kLd
  rw [h.1, h.2.2.1]
theorem ldQ_T {S T w q : Nat → Nat} {X Y : Nat → Nat → Nat → Nat} {k : Nat} (h : AGL S T) (hX : XA S X Y) (wg : WG S) (hV : VW S w q) (hk : k < S 2) : ldQ T Y w q k = ldQ S X w q k := by
  unfold ldQ
  rw [kLd_T h]
  exact kLd_c (by have := wg.1; omega) fun i hi => xcQ_T h hX wg hV hk hi
theorem kHo_T {S T : Nat → Nat} {L : Nat} {f g : Nat → Nat} (h : AGL S T) : ∀ {n : Nat}, (∀ i, i < n → f i = g i) → kHo T L f n = kHo S L g n
  | 0, _ => rfl
  | n + 1, hf => by rw [kHo, kHo, kHo_T h fun i hi => hf i (by omega), hf n (by omega), h.1]
theorem suQ_T {S T w q : Nat → Nat} {X Y : Nat → Nat → Nat → Nat} (h : AGL S T) (hX : XA S X Y) (wg : WG S) (hV : VW S w q) : ∀ {r : Nat}, r ≤ S 2 → suQ T Y w q r = suQ S X w q r
  | 0, _ => rfl
  | r + 1, hr => by
    rw [suQ, suQ, suQ_T h hX wg hV (by omega), h.2.1, ldQ_T h hX wg hV (by omega), h.1, kHo_T h fun i hi => xcQ_T h hX wg hV (by omega) hi]
theorem bm_T {S T : Nat → Nat} {p r : Nat → Bool} (h : AGL S T) (hp : ∀ x, x < S 10 → p x = r x) : bm p (T 10) = bm r (S 10) := by
  rw [h.2.2.2.2.2.2.1]
  exact bm_c hp
theorem kBr_T {S T : Nat → Nat} {L : Nat} {f g : Nat → Nat} (h : AGL S T) : ∀ {n : Nat}, (∀ i, i < n → f i = g i) → kBr T L f n = kBr S L g n
  | 0, _ => rfl
  | n + 1, hf => by
    rw [kBr, kBr, kBr_T h fun i hi => hf i (by omega), hf n (by omega), h.1]
    congr 1
    refine bm_T h fun x _ => ?_
    unfold ahB
    rw [h.2.2.2.2.2.2.2.2 _ (by omega), h.2.2.2.2.2.2.2.2 _ (by omega), h.2.2.2.2.2.2.2.2 _ (by omega)]
theorem msk_T {f g : Nat → Nat} : ∀ {n : Nat}, (∀ i, i < n → f i = g i) → msk f n = msk g n
  | 0, _ => rfl
  | n + 1, hf => by rw [msk, msk, msk_T fun i hi => hf i (by omega), hf n (by omega)]
theorem gr_T {S T w q : Nat → Nat} {X Y : Nat → Nat → Nat → Nat} {k : Nat} (h : AGL S T) (hX : XA S X Y) (wg : WG S) (hV : VW S w q) (hk : k < S 2) : msk (Y (w k) (ixk T w k)) (S 1) = msk (X (w k) (ixk S w k)) (S 1) := by
  obtain ⟨b1, b2, b3⟩ := hV k hk
  have w2 := wg.2.1
  rw [ixk_T h (by omega)]
  exact msk_T fun i hi => hX _ _ _ b1 (way_i b2) hi
theorem laQ_T {S T w q : Nat → Nat} {X Y : Nat → Nat → Nat → Nat} (h : AGL S T) (hX : XA S X Y) (wg : WG S) (hV : VW S w q) : ∀ {r : Nat}, r ≤ S 2 → laQ T Y w r = laQ S X w r
  | 0, _ => rfl
  | r + 1, hr => by rw [laQ, laQ, laQ_T h hX wg hV (by omega), h.2.1, h.1, gr_T h hX wg hV (by omega)]
theorem agB_T {S T : Nat → Nat} {k ld ca la su x : Nat} (h : AGL S T) : agB T k ld ca la su x = agB S k ld ca la su x := by
  unfold agB
  rw [h.2.2.2.2.2.2.2.2 (64 + 4 * x) (by omega), h.2.2.2.2.2.2.2.2 (65 + 4 * x) (by omega), h.2.2.2.2.2.2.2.2 (66 + 4 * x) (by omega), h.2.2.2.2.2.2.2.2 (67 + 4 * x) (by omega)]
theorem bkQ_T {S T w q : Nat → Nat} {X Y : Nat → Nat → Nat → Nat} (h : AGL S T) (hX : XA S X Y) (wg : WG S) (hV : VW S w q) : ∀ {r : Nat}, r ≤ S 2 → bkQ T Y w q r = bkQ S X w q r
  | 0, _ => rfl
  | r + 1, hr => by
    rw [bkQ, bkQ, bkQ_T h hX wg hV (by omega), suQ_T h hX wg hV hr, laQ_T h hX wg hV (by omega), h.2.1, ldQ_T h hX wg hV (by omega), h.1, gr_T h hX wg hV (by omega), kBr_T h fun i hi => xcQ_T h hX wg hV (by omega) hi]
    congr 1
    exact bm_T h fun x _ => agB_T h
theorem LN_T {S T w q : Nat → Nat} {X Y : Nat → Nat → Nat → Nat} (h : AGL S T) (hX : XA S X Y) (wg : WG S) : LN T Y w q ↔ LN S X w q := by
  have w2 := wg.2.1
  have w3 := wg.2.2.1
  have hv : (∀ k, k < T 2 → w k < T 1 ∧ 0 < lfk T w (k + 1) (w k) ∧ q k < noS T) ↔ VW S w q := VW_T h w2
  unfold LN
  rw [hv]
  refine and_congr_right fun hV => ?_
  unfold CHN
  rw [h.2.2.2.2.2.1, h.2.1, h.2.2.2.1, h.1, ldQ_T h hX wg hV (by omega)]
  refine and_congr_right fun _ => ?_
  constructor
  · intro a k hk
    have := a k hk
    rw [ldQ_T h hX wg hV (by omega), ldQ_T h hX wg hV (by omega)] at this
    exact this
  · intro a k hk
    rw [ldQ_T h hX wg hV (by omega), ldQ_T h hX wg hV (by omega)]
    exact a k hk
theorem kBa_ss {S T : Nat → Nat} {L y : Nat} {f g : Nat → Nat} (h1 : T 1 = S 1) (hb : ∀ x l z, (brd T x l).testBit z = true → (brd S x l).testBit z = true) : ∀ {n : Nat}, (∀ i, i < n → f i = g i) → (0 < n → f 0 = g 0) → (kBa T L f n).testBit y = true → (kBa S L g n).testBit y = true
  | 0, _, _, h => by
    rw [kBa, Nat.zero_testBit] at h
    exact absurd h (by decide)
  | n + 1, hf, h0, h => by
    rw [kBa, Nat.testBit_or, Bool.or_eq_true, ml_bit, Bool.and_eq_true, decide_eq_true_iff] at h
    rw [kBa, Nat.testBit_or, Bool.or_eq_true, ml_bit, Bool.and_eq_true, decide_eq_true_iff]
    rcases h with h | ⟨h, h2⟩
    · exact Or.inl (kBa_ss h1 hb (fun i hi => hf i (by omega)) (fun _ => h0 (by omega)) h)
    · rw [h1, hf n (by omega), h0 (by omega)] at h2
      rw [h1] at h
      exact Or.inr ⟨h, hb _ _ _ h2⟩
theorem wrQ_ss {S T w q : Nat → Nat} {X Y : Nat → Nat → Nat → Nat} {r : Nat} (h : AGL S T) (hX : XA S X Y) (wg : WG S) (hH : HZ S X) (hV : VW S w q) (hb : ∀ x l z, (brd T x l).testBit z = true → (brd S x l).testBit z = true) (hr : r < S 2) (h0 : cnt (wrQ S X w q r) = 0) : cnt (wrQ T Y w q r) = 0 := by
  have hU : suQ S X w q r < 65536 := suQ_lt wg.1 wg.2.1 hH (by omega) fun j h1 h2 => hV j h2
  have hz := cnt_zero (cin_lt _) h0
  have : wrQ T Y w q r = 0 := by
    apply Nat.eq_of_testBit_eq
    intro y
    rw [Nat.zero_testBit]
    cases e : (wrQ T Y w q r).testBit y with
    | false => rfl
    | true =>
      unfold wrQ at e
      rw [suQ_T h hX wg hV (by omega), h.2.1, ldQ_T h hX wg hV (by omega), h.1, cin_bit (Nat.lt_of_le_of_lt Nat.and_le_left hU)] at e
      obtain ⟨c, s, c1, c2, c3, c4⟩ := e
      rw [Nat.testBit_and, Bool.and_eq_true] at c4
      have h2 := kBa_ss h.1 hb (fun i hi => xcQ_T h hX wg hV (show S 2 - (r + 1) < S 2 by omega) hi) (fun _ => xcQ_T h hX wg hV (show S 2 - (r + 1) < S 2 by omega) (by have := wg.1; omega)) c4.2
      have h3 : (wrQ S X w q r).testBit y = true := by
        unfold wrQ
        rw [cin_bit (Nat.lt_of_le_of_lt Nat.and_le_left hU)]
        exact ⟨c, s, c1, c2, c3, by rw [Nat.testBit_and, c4.1, h2]; rfl⟩
      unfold wrQ at h3 hz
      rw [hz, Nat.zero_testBit] at h3
      exact absurd h3 (by decide)
  rw [this]
  decide
theorem nbQ_ss {S T w q : Nat → Nat} {X Y : Nat → Nat → Nat → Nat} (h : AGL S T) (hX : XA S X Y) (wg : WG S) (hH : HZ S X) (hV : VW S w q) (hb : ∀ x l z, (brd T x l).testBit z = true → (brd S x l).testBit z = true) (h0 : nbQ S X w q (S 2) = 0) : nbQ T Y w q (S 2) = 0 := nb_0.mpr fun j hj => wrQ_ss h hX wg hH hV hb hj (nb_0.mp h0 j hj)
theorem GL_ss {S T w q : Nat → Nat} {X Y : Nat → Nat → Nat → Nat} (h : AGL S T) (hX : XA S X Y) (wg : WG S) (hH : HZ S X) (hb : ∀ x l z, (brd T x l).testBit z = true → (brd S x l).testBit z = true) (hg : GL S X w q) : GL T Y w q := by
  obtain ⟨g1, g2, g3⟩ := hg
  have hV : VW S w q := g1.1
  refine ⟨(LN_T h hX wg).mpr g1, ?_, ?_⟩
  · rw [h.2.1]; exact nbQ_ss h hX wg hH hV hb g2
  · rw [h.2.1, bkQ_T h hX wg hV (Nat.le_refl _)]; exact g3
