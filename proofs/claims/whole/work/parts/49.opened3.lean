/-! opened: the call -/
theorem fsN_le {t : Nat → Bool} : ∀ n s q, (fsN t n s q).1 ≤ q.1 + n
  | 0, _, _ => Nat.le_refl _
  | n + 1, s, q => by
    unfold fsN
    have ih := fsN_le (t := t) n (s + 1) (fsQ t s q)
    have : (fsQ t s q).1 ≤ q.1 + 1 := by
      unfold fsQ
      split
      · exact Nat.le_refl _
      · exact Nat.le_succ _
    omega
theorem fsN_congr {t t' : Nat → Bool} (h : ∀ s, t s = t' s) : ∀ n s q, fsN t n s q = fsN t' n s q := by
  have e : t = t' := funext h
  subst e
  exact fun _ _ _ => rfl
theorem m_sets {w : Wd} {c : Nat → Nat} {r i n k A : Nat} {pr : Nat → Nat} {iv : Nat → Bool} (hc : PlOk c) (h : MPl w c) (hr : r < 8) (hn : i + 2 * n ≤ 40) (hX : ∀ k, k < n → w (sg 16) (40 * r + (i + 2 * k)) = nI (pr k)) (hY : ∀ k, k < n → w (sg 16) (40 * r + (i + 2 * k + 1)) = bI (iv k)) (hp : ∀ k, k < n → pr k < 5) (hA : A < 256) {r0 : Rs} : ∀ m s q x11 x12 x13, s + m = A + 1 → sbA A q → (∀ x11 x12 x13, Rn none 19 jM_opened (310, opW (some (vI (nI A))) (some (vI (nI (fsN (fun s => alN pr iv (bs (gl c s) (c 4)) n) m s q).1))) (some (vI (nI (fsN (fun s => alN pr iv (bs (gl c s) (c 4)) n) m s q).2.1))) (some (vI (nI (fsN (fun s => alN pr iv (bs (gl c s) (c 4)) n) m s q).2.2))) (some (vI (nI (A + 1)))) x11 x12 x13 r i n k (40 * r + i), [], w) r0) → Rn none 19 jM_opened (171, opW (some (vI (nI A))) (some (vI (nI q.1))) (some (vI (nI q.2.1))) (some (vI (nI q.2.2))) (some (vI (nI s))) x11 x12 x13 r i n k (40 * r + i), [], w) r0 := by
  intro m
  induction m with
  | zero =>
    intro s q x11 x12 x13 hs hq kk
    obtain rfl : s = A + 1 := by omega
    refine Rn.if2t 60 rfl rfl (nI_lt (Nat.lt_succ_self A) (by omega)) ?_
    exact kk _ _ _
  | succ m ih =>
    intro s q x11 x12 x13 hs hq kk
    refine m_oneset hc h hr hn hX hY hp (show s ≤ A by omega) hA hq (fun x11 x12 x13 => ?_)
    exact ih (s + 1) _ x11 x12 x13 (by omega) (sbA_Q hq) kk
theorem op_opened {x y z v : Int32} : Op jX_opened jM_opened [vI x, vI y, vI z, vI v] := by
  intro w hi
  obtain ⟨hb, c, nr, ti, o, sp, dy, wf, hok, hci, hma, hact⟩ := id hi.2.2.2.2.2
  have hM : Mt w c nr ti o sp dy wf := ⟨hb, hma⟩
  have hc := hok.1
  have hd := hok.2.1
  have hc0 := hc.1
  have hc3 := hc.2.1
  have hc4 := hc.2.2.1
  have hp3 : 2 ^ c 3 ≤ 256 := Nat.pow_le_pow_right (n := 2) (by decide) hc3
  have hp1 : 1 ≤ 2 ^ c 3 := Nat.one_le_two_pow
  by_cases h0 : 0 < c 0
  · have cx : ∀ {r0 : Rs}, Rn none 19 jX_opened (13, [some (vR (sg 0)), some (vI x), some (vI y), some (vI z), some (vI v), none], [], w) r0 → Cl 20 jX_opened [vR (sg 0), vI x, vI y, vI z, vI v] w r0 := by
      intro r0 k
      refine Cl.of rfl rfl rfl (lc := [some (vR (sg 0)), some (vI x), some (vI y), some (vI z), some (vI v), none]) rfl ?_
      refine Rn.cv 60 rfl rfl rfl rfl rfl (x_there hc hci) (by decide) ?_
      rw [decide_eq_true h0]
      exact Rn.if1t 60 rfl rfl (by dsimp only [tm_c2P]; decide) k
    have cm : ∀ {w : Wd} {r0 : Rs}, MPl w c → Rn none 19 jM_opened (10, [some (vR (sg 13)), some (vI x), some (vI y), some (vI z), some (vI v), none, none, none, none, none, none, none, none, none], [], w) r0 → Cl 20 jM_opened [vR (sg 13), vI x, vI y, vI z, vI v] w r0 := by
      intro w r0 hM k
      refine Cl.of rfl rfl rfl (lc := [some (vR (sg 13)), some (vI x), some (vI y), some (vI z), some (vI v), none, none, none, none, none, none, none, none, none]) rfl ?_
      refine Rn.cv 60 rfl rfl rfl rfl rfl (m_hasCity hc hM) (by decide) ?_
      rw [decide_eq_true h0]
      exact Rn.if1t 60 rfl rfl (by dsimp only [tm_c2P]; decide) k
    rcases pk_or (x := x) (n := 8) (by omega) with h1 | ⟨r, hr, rfl⟩
    · refine op_same hi (v := -(nI 1000001)) (cx ?_) (cm hM.pl ?_)
      · refine Rn.cs 60 rfl rfl rfl rfl (x_no (by decide) h1) (by decide) ?_
        refine Rn.if1t 60 rfl rfl (by dsimp only [tm_c2P]; decide) ?_
        exact Rn.ir 60 rfl rfl rfl rfl
      · refine Rn.cs 60 rfl rfl rfl rfl (m_isRow_no h1) (by decide) ?_
        refine Rn.if1t 60 rfl rfl (by dsimp only [tm_c2P]; decide) ?_
        exact Rn.ir 60 rfl rfl rfl rfl
    rcases pk_or (x := z) (n := 11) (by omega) with h1 | ⟨n, hn, rfl⟩
    · refine op_same hi (v := -(nI 1000001)) (cx ?_) (cm hM.pl ?_)
      · refine Rn.cs 60 rfl rfl rfl rfl (x_yes (by decide) hr) (by decide) ?_
        refine Rn.if1f 60 rfl rfl (by dsimp only [tm_c2P]; decide) ?_
        refine Rn.if1 60 rfl rfl (fun _ => Rn.ir 60 rfl rfl rfl rfl) (fun h2 => ?_)
        refine Rn.if2t 60 rfl rfl (nI_lt1 (n := 10) (by decide) (h1.resolve_left h2)) ?_
        exact Rn.ir 60 rfl rfl rfl rfl
      · refine Rn.cs 60 rfl rfl rfl rfl (m_isRow_yes hr) (by decide) ?_
        refine Rn.if1f 60 rfl rfl (by dsimp only [tm_c2P]; decide) ?_
        refine Rn.cs 60 rfl rfl rfl rfl (m_no (n := 10) (by decide) h1) (by decide) ?_
        refine Rn.if1t 60 rfl rfl (by dsimp only [tm_c2P]; decide) ?_
        exact Rn.ir 60 rfl rfl rfl rfl
    have dx : ∀ {r0 : Rs}, Rn none 19 jX_opened (32, [some (vR (sg 0)), some (vI (nI r)), some (vI y), some (vI (nI n)), some (vI v), none], [], w) r0 → Cl 20 jX_opened [vR (sg 0), vI (nI r), vI y, vI (nI n), vI v] w r0 := by
      intro r0 k
      refine cx ?_
      refine Rn.cs 60 rfl rfl rfl rfl (x_yes (by decide) hr) (by decide) ?_
      refine Rn.if1f 60 rfl rfl (by dsimp only [tm_c2P]; decide) ?_
      refine Rn.if1f 60 rfl rfl (nI_pos (by omega)) ?_
      exact Rn.if2f 60 rfl rfl (nI_nlt (by omega) (by omega)) k
    have dm : ∀ {w : Wd} {r0 : Rs}, MPl w c → Rn none 19 jM_opened (27, [some (vR (sg 13)), some (vI (nI r)), some (vI y), some (vI (nI n)), some (vI v), none, none, none, none, none, none, none, none, none], [], w) r0 → Cl 20 jM_opened [vR (sg 13), vI (nI r), vI y, vI (nI n), vI v] w r0 := by
      intro w r0 hM k
      refine cm hM ?_
      refine Rn.cs 60 rfl rfl rfl rfl (m_isRow_yes hr) (by decide) ?_
      refine Rn.if1f 60 rfl rfl (by dsimp only [tm_c2P]; decide) ?_
      refine Rn.cs 60 rfl rfl rfl rfl (m_yes (n := 10) (by decide) (by omega)) (by decide) ?_
      exact Rn.if1f 60 rfl rfl (by dsimp only [tm_c2P]; decide) k
    rcases pk_or (x := v) (n := 3) (by omega) with h1 | ⟨k, hk, rfl⟩
    · refine op_same hi (v := -(nI 1000001)) (dx ?_) (dm hM.pl ?_)
      · refine Rn.if1 60 rfl rfl (fun _ => Rn.ir 60 rfl rfl rfl rfl) (fun h2 => ?_)
        refine Rn.if2f 60 rfl rfl (Int32.not_le.mpr (nI_lt1 (n := 2) (by decide) (h1.resolve_left h2))) ?_
        exact Rn.ir 60 rfl rfl rfl rfl
      · refine Rn.cs 60 rfl rfl rfl rfl (m_no (n := 2) (by decide) h1) (by decide) ?_
        refine Rn.if1f 60 rfl rfl (by dsimp only [tm_c2P]; decide) ?_
        exact Rn.ir 60 rfl rfl rfl rfl
    have ex : ∀ {r0 : Rs}, Rn none 19 jX_opened (54, [some (vR (sg 0)), some (vI (nI r)), some (vI y), some (vI (nI n)), some (vI (nI k)), some (vR (rw_ (Fin.ofNat 8 r) 0))], [], w) r0 → Cl 20 jX_opened [vR (sg 0), vI (nI r), vI y, vI (nI n), vI (nI k)] w r0 := by
      intro r0 kk
      refine dx ?_
      refine Rn.if1f 60 rfl rfl (nI_pos (by omega)) ?_
      refine Rn.if2t 60 rfl rfl (nI_le (by omega) (by decide)) ?_
      refine Rn.row 60 rfl rfl rfl hr ?_
      exact Rn.at 1 rfl kk
    have em : ∀ {w : Wd} {r0 : Rs}, MPl w c → Rn none 19 jM_opened (46, [some (vR (sg 13)), some (vI (nI r)), some (vI y), some (vI (nI n)), some (vI (nI k)), none, none, none, none, none, none, none, none, none], [vI (w (sg 14) r)], w) r0 → Cl 20 jM_opened [vR (sg 13), vI (nI r), vI y, vI (nI n), vI (nI k)] w r0 := by
      intro w r0 hM kk
      refine dm hM ?_
      refine Rn.cs 60 rfl rfl rfl rfl (m_yes (n := 2) (by decide) (by omega)) (by decide) ?_
      refine Rn.if1t 60 rfl rfl (by dsimp only [tm_c2P]; decide) ?_
      exact Rn.al 60 rfl rfl rfl rfl hr kk
    have hpl2 : ∀ x, MPl (wset w (sg 0) 8 x) c := fun x => hM.pl.fr (by rw [wset_ne (by decide)]) (wset_ne (by decide))
    rcases hi.2.1 r hr with ⟨g1, g2⟩ | ⟨g1, l, L, hl, hL, g2, g3, g4, g5, g6⟩
    · refine op_found hi (x := nI 1) (v := -(nI 1000010) - nI 1) (ex ?_) (em (hpl2 _) ?_)
      · refine Rn.if1f 60 rfl rfl (by rw [g1]; dsimp only [tm_c2P]; decide) ?_
        refine Rn.cv 60 rfl rfl rfl rfl rfl x_found (by decide) ?_
        exact Rn.ir 60 rfl rfl rfl rfl
      · rw [wset_ne (show sg 14 ≠ sg 0 by decide), g2]
        refine Rn.if1f 60 rfl rfl (by dsimp only [tm_c2P]; decide) ?_
        refine Rn.cv 60 rfl rfl rfl rfl rfl m_finds (by decide) ?_
        exact Rn.ir 60 rfl rfl rfl rfl
    have gl0 : ¬ nI (l + 1) = 0 := nI_ne0 (by omega) (by omega)
    have e2n : nI 2 * nI n = nI (2 * n) := pk_mul 2 n
    have fx : ∀ {r0 : Rs} {b : Bool}, Cl 1 jR_hasPlaces [vR (rw_ (Fin.ofNat 8 r) 0), vI y, vI (nI (2 * n))] w (some (vI (bI b)), w) → Rn none 19 jX_opened (77, [some (vR (sg 0)), some (vI (nI r)), some (vI y), some (vI (nI n)), some (vI (nI k)), some (vR (rw_ (Fin.ofNat 8 r) 0))], [vI (bI b)], w) r0 → Cl 20 jX_opened [vR (sg 0), vI (nI r), vI y, vI (nI n), vI (nI k)] w r0 := by
      intro r0 b hcl kk
      refine ex ?_
      refine Rn.if1t 60 rfl rfl (by rw [g1]; dsimp only [tm_c2P]; decide) ?_
      rw [← e2n] at hcl
      exact Rn.cv 60 rfl rfl rfl rfl rfl hcl (by decide) kk
    have fm : ∀ {w : Wd} {r0 : Rs}, w (sg 14) r = nI (l + 1) → MPl w c → Rn none 19 jM_opened (55, [some (vR (sg 13)), some (vI (nI r)), some (vI y), some (vI (nI n)), some (vI (nI k)), none, none, none, none, none, none, none, none, none], [], w) r0 → Cl 20 jM_opened [vR (sg 13), vI (nI r), vI y, vI (nI n), vI (nI k)] w r0 := by
      intro w r0 e14 hM kk
      refine em hM ?_
      rw [e14]
      exact Rn.if1t 60 rfl rfl gl0 kk
    rcases place_or y (nI (2 * n)) L with ⟨i, n2, rfl, en, hin⟩ | hno
    · obtain rfl : n2 = 2 * n := by
        rw [nI_eq (by omega) (by omega)] at en
        exact en.symm
      have gx : ∀ {r0 : Rs}, Rn none 19 jX_opened (86, [some (vR (sg 0)), some (vI (nI r)), some (vI (nI i)), some (vI (nI n)), some (vI (nI k)), some (vR (rw_ (Fin.ofNat 8 r) 0))], [], w) r0 → Cl 20 jX_opened [vR (sg 0), vI (nI r), vI (nI i), vI (nI n), vI (nI k)] w r0 := by
        intro r0 kk
        refine fx (sp_hasYes (by omega) g4 hin) ?_
        exact Rn.if1t 60 rfl rfl (by dsimp only [tm_c2P]; decide) kk
      have gm : ∀ {w : Wd} {r0 : Rs}, w (sg 14) r = nI (l + 1) → w (sg 15) r = nI L → MPl w c → Rn none 19 jM_opened (90, opW (some (vI (nI 0))) none none none none none none none r i n k (40 * r + i), [], w) r0 → Cl 20 jM_opened [vR (sg 13), vI (nI r), vI (nI i), vI (nI n), vI (nI k)] w r0 := by
        intro w r0 e14 e15 hM kk
        refine fm e14 hM ?_
        refine Rn.if1f 60 rfl rfl (nI_pos (by omega)) ?_
        refine Rn.al 60 rfl rfl rfl rfl hr ?_
        refine Rn.if2t 60 rfl rfl (by dsimp only [tm_c2P]; rw [e15, e2n, pk_sub (by omega)]; exact nI_le (by omega) (by omega)) ?_
        unfold opW at kk
        rw [← nI_add, ← pk_mul] at kk
        exact Rn.at 8 rfl kk
      have hX : ∀ q, q < n → w (rw_ (Fin.ofNat 8 r) 1) (i + 2 * q) = w (sg 16) (40 * r + (i + 2 * q)) := fun q hq => g6 _ (by omega)
      have hY : ∀ q, q < n → w (rw_ (Fin.ofNat 8 r) 1) (i + 2 * q + 1) = w (sg 16) (40 * r + (i + 2 * q + 1)) := fun q hq => g6 _ (by omega)
      have ap := x_arePairs (X := fun q => w (sg 16) (40 * r + (i + 2 * q))) (Y := fun q => w (sg 16) (40 * r + (i + 2 * q + 1))) hci.1.2.2.1 (show i + 2 * n ≤ 40 by omega) hX hY
      cases ha : apN (c 4) (fun q => w (sg 16) (40 * r + (i + 2 * q))) (fun q => w (sg 16) (40 * r + (i + 2 * q + 1))) n 0 with
      | false =>
        rw [ha] at ap
        refine op_same hi (v := -(nI 1000001)) (gx ?_) (gm g3 g5 hM.pl ?_)
        · refine Rn.cv 60 rfl rfl rfl rfl rfl ap (by decide) ?_
          refine Rn.if1f 60 rfl rfl (by dsimp only [tm_c2P]; decide) ?_
          exact Rn.ir 60 rfl rfl rfl rfl
        · refine m_pairs hc hM.pl hr (by omega) (fun q hq => rfl) (fun q hq => rfl) (fun z => ?_) (fun _ x6 => ?_)
          · rw [ha] at z
            cases z
          · exact Rn.ir 60 rfl rfl rfl rfl
      | true =>
        rw [ha] at ap
        have hv : ∀ q, q < n → (w (sg 16) (40 * r + (i + 2 * q))).toNatClampNeg < c 4 ∧ w (sg 16) (40 * r + (i + 2 * q)) = nI (w (sg 16) (40 * r + (i + 2 * q))).toNatClampNeg ∧ w (sg 16) (40 * r + (i + 2 * q + 1)) = bI (decide (w (sg 16) (40 * r + (i + 2 * q + 1)) = nI 1)) := fun q hq => vlP_of (by omega) (apN_all n 0 ha q (by omega) (by omega))
        obtain ⟨pr, hpr⟩ : ∃ pr : Nat → Nat, ∀ q, pr q = (w (sg 16) (40 * r + (i + 2 * q))).toNatClampNeg := ⟨_, fun _ => rfl⟩
        obtain ⟨iv, hiv⟩ : ∃ iv : Nat → Bool, ∀ q, iv q = decide (w (sg 16) (40 * r + (i + 2 * q + 1)) = nI 1) := ⟨_, fun _ => rfl⟩
        have hA' : ∀ q, q < n → w (sg 16) (40 * r + (i + 2 * q)) = nI (pr q) := fun q hq => by rw [hpr]; exact (hv q hq).2.1
        have hB' : ∀ q, q < n → w (sg 16) (40 * r + (i + 2 * q + 1)) = bI (iv q) := fun q hq => by rw [hiv]; exact (hv q hq).2.2
        have hp5 : ∀ q, q < n → pr q < 5 := fun q hq => by have := (hv q hq).1; rw [hpr]; omega
        have t1 := x_peopleTold (w := w) (pr := pr) (iv := iv) true (show i + 2 * n ≤ 40 by omega) (fun q hq => (hX q hq).trans (hA' q hq)) (fun q hq => (hY q hq).trans (hB' q hq)) hp5
        have t0 := x_peopleTold (w := w) (pr := pr) (iv := iv) false (show i + 2 * n ≤ 40 by omega) (fun q hq => (hX q hq).trans (hA' q hq)) (fun q hq => (hY q hq).trans (hB' q hq)) hp5
        obtain ⟨w1, f1, f2, f3⟩ := sp_findSets hc (TwnI.now hci) (tg := ptN pr iv true n) (tn := ptN pr iv false n) (ptN_lt n hp5) (ptN_lt n hp5)
        rw [fsN_congr (fun s => fsT_al (c := c) (pr := pr) (iv := iv) (n := n) (s := s))] at f3
        have hle := fsN_le (t := fun s => alN pr iv (bs (gl c s) (c 4)) n) (2 ^ c 3) 0 (0, 2 ^ c 3 - 1, 2 ^ c 3 - 1)
        have hle2 : (fsN (fun s => alN pr iv (bs (gl c s) (c 4)) n) (2 ^ c 3) 0 (0, 2 ^ c 3 - 1, 2 ^ c 3 - 1)).1 < 2 ^ 31 := by
          have hle : (fsN (fun s => alN pr iv (bs (gl c s) (c 4)) n) (2 ^ c 3) 0 (0, 2 ^ c 3 - 1, 2 ^ c 3 - 1)).1 ≤ 0 + 2 ^ c 3 := hle
          omega
        have hR := FrR.oS f2
        have esg : ∀ s, s ≠ 10 → w1 (sg s) = w (sg s) := fun s hs => f2 _ (fun p => sg_cit) (fun z => hs (by cases z; rfl))
        have e0 : ∀ s, s ≠ 10 → s ≠ 0 → wset w1 (sg 0) 8 (nI 0) (sg s) = w (sg s) := fun s h1 h2 => by rw [wset_ne (fun z => h2 (by cases z; rfl)), esg s h1]
        have hpl1 : MPl (wset w1 (sg 0) 8 (nI 0)) c := hM.pl.fr (by rw [e0 13 (by decide) (by decide)]) (e0 17 (by decide) (by decide))
        have hA1 : ∀ q, q < n → wset w1 (sg 0) 8 (nI 0) (sg 16) (40 * r + (i + 2 * q)) = nI (pr q) := fun q hq => by rw [e0 16 (by decide) (by decide)]; exact hA' q hq
        have hB1 : ∀ q, q < n → wset w1 (sg 0) 8 (nI 0) (sg 16) (40 * r + (i + 2 * q + 1)) = bI (iv q) := fun q hq => by rw [e0 16 (by decide) (by decide)]; exact hB' q hq
        refine ⟨wset w1 (sg 0) 8 (nI 0), wset (wset w1 (sg 0) 8 (nI 0)) (sg 13) 3 (nI 0), saS (fsN (fun s => alN pr iv (bs (gl c s) (c 4)) n) (2 ^ c 3) 0 (0, 2 ^ c 3 - 1, 2 ^ c 3 - 1)) k, gx ?_, gm (by rw [e0 14 (by decide) (by decide)]; exact g3) (by rw [e0 15 (by decide) (by decide)]; exact g5) hpl1 ?_, (hi.seer hR).fin⟩
        · refine Rn.cv 60 rfl rfl rfl rfl rfl ap (by decide) ?_
          refine Rn.if1t 60 rfl rfl (by dsimp only [tm_c2P]; decide) ?_
          refine Rn.cs 60 rfl rfl rfl rfl t1 (by decide) ?_
          refine Rn.cs 60 rfl rfl rfl rfl t0 (by decide) ?_
          refine Rn.cv 60 rfl rfl rfl rfl rfl f1 (by decide) ?_
          refine Rn.cv 60 rfl rfl rfl rfl rfl (x_setsAnswer f3 hle2 (by omega)) (by decide) ?_
          refine Rn.cv 60 rfl rfl rfl rfl rfl x_clean (by decide) ?_
          exact Rn.ir 60 rfl rfl rfl rfl
        · refine m_pairs (X := fun q => w (sg 16) (40 * r + (i + 2 * q))) (Y := fun q => w (sg 16) (40 * r + (i + 2 * q + 1))) hc hpl1 hr (by omega) (fun q hq => by rw [e0 16 (by decide) (by decide)]) (fun q hq => by rw [e0 16 (by decide) (by decide)]) (fun _ => ?_) (fun z => ?_)
          · refine Rn.cv 60 rfl rfl rfl rfl rfl (m_G hpl1) (by decide) ?_
            have st := m_sets (k := k) (A := 2 ^ c 3 - 1) hc hpl1 hr (show i + 2 * n ≤ 40 by omega) hA1 hB1 hp5 (by omega) (r0 := (some (vI (saS (fsN (fun s => alN pr iv (bs (gl c s) (c 4)) n) (2 ^ c 3) 0 (0, 2 ^ c 3 - 1, 2 ^ c 3 - 1)) k)), wset (wset w1 (sg 0) 8 (nI 0)) (sg 13) 3 (nI 0))) (2 ^ c 3) 0 (0, 2 ^ c 3 - 1, 2 ^ c 3 - 1) none none none (by omega) ⟨Nat.and_self _, Nat.and_self _⟩ (fun x11 x12 x13 => ?_)
            · unfold opW at st
              dsimp only at st
              rw [← pk_sub hp1, ← nJ_1shl (show c 3 < 32 by omega)] at st
              exact Rn.at 12 rfl st
            · have fin : ∀ u, u = saS (fsN (fun s => alN pr iv (bs (gl c s) (c 4)) n) (2 ^ c 3) 0 (0, 2 ^ c 3 - 1, 2 ^ c 3 - 1)) k → ∀ lc, Rn none 19 jM_opened (344, lc, [vI u, vR (sg 13)], wset w1 (sg 0) 8 (nI 0)) (some (vI (saS (fsN (fun s => alN pr iv (bs (gl c s) (c 4)) n) (2 ^ c 3) 0 (0, 2 ^ c 3 - 1, 2 ^ c 3 - 1)) k)), wset (wset w1 (sg 0) 8 (nI 0)) (sg 13) 3 (nI 0)) := by
                intro u hu lc
                rw [← hu]
                refine Rn.cv 60 rfl rfl rfl rfl rfl m_well (by decide) ?_
                exact Rn.ir 60 rfl rfl rfl rfl
              generalize fsN (fun s => alN pr iv (bs (gl c s) (c 4)) n) (2 ^ c 3) 0 (0, 2 ^ c 3 - 1, 2 ^ c 3 - 1) = Q at *
              unfold saS at fin ⊢
              by_cases k0 : k = 0
              · rw [if_pos k0] at fin ⊢
                refine Rn.if1f 60 rfl rfl (by dsimp only [tm_c2P]; rw [k0]; decide) ?_
                exact Rn.at 2 rfl (fin _ rfl _)
              · rw [if_neg k0] at fin ⊢
                refine Rn.if1t 60 rfl rfl (nI_ne0 (by omega) (by omega)) ?_
                by_cases q0 : Q.1 = 0
                · rw [if_pos q0] at fin ⊢
                  refine Rn.if1f 60 rfl rfl (by dsimp only [tm_c2P]; rw [q0]; decide) ?_
                  exact Rn.at 2 rfl (fin _ rfl _)
                · rw [if_neg q0] at fin ⊢
                  refine Rn.if1t 60 rfl rfl (nI_ne0 (by omega) hle2) ?_
                  by_cases k1 : k = 1
                  · rw [if_pos k1] at fin ⊢
                    refine Rn.if2f 60 rfl rfl (by dsimp only [tm_c2P]; rw [k1]; exact fun z => z rfl) ?_
                    exact Rn.at 2 rfl (fin _ rfl _)
                  · rw [if_neg k1] at fin ⊢
                    refine Rn.if2t 60 rfl rfl (by dsimp only [tm_c2P]; rw [nI_eq (by omega) (by decide)]; exact k1) ?_
                    exact Rn.at 1 rfl (fin _ rfl _)
          · rw [ha] at z
            cases z
    · refine op_found hi (x := nI 2) (v := -(nI 1000010) - nI 2) (fx (sp_hasNo (by omega) g4 hno) ?_) (fm (by rw [wset_ne (by decide)]; exact g3) (hpl2 _) ?_)
      · refine Rn.if1f 60 rfl rfl (by dsimp only [tm_c2P]; decide) ?_
        refine Rn.cv 60 rfl rfl rfl rfl rfl x_found (by decide) ?_
        exact Rn.ir 60 rfl rfl rfl rfl
      · have fin : Rn none 19 jM_opened (73, [some (vR (sg 13)), some (vI (nI r)), some (vI y), some (vI (nI n)), some (vI (nI k)), none, none, none, none, none, none, none, none, none], [], wset w (sg 0) 8 (nI 2)) (some (vI (-(nI 1000010) - nI 2)), wset (wset w (sg 0) 8 (nI 2)) (sg 13) 3 (nI 2)) := by
          refine Rn.cv 60 rfl rfl rfl rfl rfl m_finds (by decide) ?_
          exact Rn.ir 60 rfl rfl rfl rfl
        refine Rn.if1 60 rfl rfl (fun _ => fin) (fun h2 => ?_)
        obtain ⟨i, hi31, rfl⟩ := nI_of h2
        have hlt := hno i (2 * n) hi31 (by omega) rfl rfl
        refine Rn.al 60 rfl rfl rfl rfl hr ?_
        refine Rn.if2f 60 rfl rfl ?_ fin
        dsimp only [tm_c2P]
        rw [wset_ne (show sg 15 ≠ sg 0 by decide), g5, e2n, Int32.not_le]
        rcases Nat.lt_or_ge L (2 * n) with q | q
        · have : nI L - nI (2 * n) < 0 := pk_sneg (by omega) q
          exact Int32.lt_of_lt_of_le this (nI_pos' hi31)
        · rw [pk_sub q]
          exact nI_lt (by omega) hi31
  · refine op_same hi (v := -(nI 1000002)) ?_ ?_
    · refine Cl.of rfl rfl rfl (lc := [some (vR (sg 0)), some (vI x), some (vI y), some (vI z), some (vI v), none]) rfl ?_
      refine Rn.cv 60 rfl rfl rfl rfl rfl (x_there hc hci) (by decide) ?_
      rw [decide_eq_false h0]
      refine Rn.if1f 60 rfl rfl (by dsimp only [tm_c2P]; decide) ?_
      exact Rn.ir 60 rfl rfl rfl rfl
    · refine Cl.of rfl rfl rfl (lc := [some (vR (sg 13)), some (vI x), some (vI y), some (vI z), some (vI v), none, none, none, none, none, none, none, none, none]) rfl ?_
      refine Rn.cv 60 rfl rfl rfl rfl rfl (m_hasCity hc hM.pl) (by decide) ?_
      rw [decide_eq_false h0]
      refine Rn.if1f 60 rfl rfl (by dsimp only [tm_c2P]; decide) ?_
      exact Rn.ir 60 rfl rfl rfl rfl
