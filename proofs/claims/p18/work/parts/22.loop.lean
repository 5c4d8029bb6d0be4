/-! the law's loop -/

def BudQ (pp k : Int) (su : Nat) : Prop := (pp ≤ 60 → (su : Int) ≤ 13530 * k + 2000) ∧ (pp ≤ 61 → (su : Int) + 14900 * pp ≤ 14936 * k + 2000) ∧ (61 ≤ pp → pp ≤ 80 → (su : Int) + 908900 ≤ 14936 * k + 2000) ∧ (pp ≤ 81 → (su : Int) + 15500 * pp ≤ 15590 * k + 2000) ∧ (81 ≤ pp → (su : Int) + 1255500 ≤ 15590 * k + 2000)
theorem BudQ.init {su : Nat} (h : su ≤ 2000) : BudQ 0 0 su := ⟨fun _ => by omega, fun _ => by omega, fun _ _ => by omega, fun _ => by omega, fun _ => by omega⟩
theorem BudQ.low {pp k : Int} {su T : Nat} (h : BudQ pp k su) (hT : T ≤ 13530) : BudQ pp (k + 1) (su + T) := by
  obtain ⟨a, b, c, d, e⟩ := h
  refine ⟨fun h1 => ?_, fun h1 => ?_, fun h1 h2 => ?_, fun h1 => ?_, fun h1 => ?_⟩
  · have q := a h1; clear a b c d e; omega
  · have q := b h1; clear a b c d e; omega
  · have q := c h1 h2; clear a b c d e; omega
  · have q := d h1; clear a b c d e; omega
  · have q := e h1; clear a b c d e; omega
theorem BudQ.stay {pp k : Int} {su : Nat} (h : BudQ pp k su) : BudQ pp (k + 1) su := h.low (T := 0) (by decide)
theorem BudQ.mid {pp k : Int} {su T : Nat} (h : BudQ pp k su) (h0 : 61 ≤ pp) (h9 : pp ≤ 80) (hT : T ≤ 14936) : BudQ pp (k + 1) (su + T) := by
  obtain ⟨a, b, c, d, e⟩ := h
  refine ⟨fun h1 => ?_, fun h1 => ?_, fun h1 h2 => ?_, fun h1 => ?_, fun h1 => ?_⟩
  · clear a b c d e; omega
  · have q := b h1; clear a b c d e; omega
  · have q := c h1 h2; clear a b c d e; omega
  · have q := d h1; clear a b c d e; omega
  · clear a b c d e; omega
theorem BudQ.top {pp k : Int} {su T : Nat} (h : BudQ pp k su) (h0 : 81 ≤ pp) (hT : T ≤ 15590) : BudQ pp (k + 1) (su + T) := by
  obtain ⟨a, b, c, d, e⟩ := h
  refine ⟨fun h1 => ?_, fun h1 => ?_, fun h1 h2 => ?_, fun h1 => ?_, fun h1 => ?_⟩
  · clear a b c d e; omega
  · clear a b c d e; omega
  · clear a b c d e; omega
  · have q := d h1; clear a b c d e; omega
  · have q := e h1; clear a b c d e; omega
theorem BudQ.grow {pp k : Int} {su T : Nat} (h : BudQ pp k su) (hT : T ≤ 36) : BudQ (pp + 1) (k + 1) (su + T) := by
  obtain ⟨a, b, c, d, e⟩ := h
  refine ⟨fun h1 => ?_, fun h1 => ?_, fun h1 h2 => ?_, fun h1 => ?_, fun h1 => ?_⟩
  · have q := a (by clear a b c d e; omega); clear a b c d e; omega
  · have q := b (by clear a b c d e; omega); clear a b c d e; omega
  · by_cases h3 : pp ≤ 60
    · have q := b (by clear a b c d e; omega); clear a b c d e; omega
    · have q := c (by clear a b c d e; omega) (by clear a b c d e; omega); clear a b c d e; omega
  · have q := d (by clear a b c d e; omega); clear a b c d e; omega
  · by_cases h3 : pp ≤ 80
    · have q := d (by clear a b c d e; omega); clear a b c d e; omega
    · have q := e (by clear a b c d e; omega); clear a b c d e; omega
theorem BudQ.fin {pp k : Int} {su S9 : Nat} (h : BudQ pp k su) (hk : k ≤ 512) (hS : 6932000 ≤ S9) : su ≤ S9 := by
  obtain ⟨a, b, c, d, e⟩ := h
  by_cases h1 : pp ≤ 60
  · have q := a h1; clear a b c d e; omega
  · by_cases h2 : pp ≤ 80
    · have q := c (by clear a b c d e; omega) h2; clear a b c d e; omega
    · have q := e (by clear a b c d e; omega); clear a b c d e; omega
theorem BudQ.room {pp k : Int} {su S9 : Nat} (h : BudQ pp k su) (hk : k ≤ 511) (hS : 6932000 ≤ S9) : su + 15590 ≤ S9 := by
  obtain ⟨a, b, c, d, e⟩ := h
  by_cases h1 : pp ≤ 60
  · have q := a h1; clear a b c d e; omega
  · by_cases h2 : pp ≤ 80
    · have q := c (by clear a b c d e; omega) h2; clear a b c d e; omega
    · have q := e (by clear a b c d e; omega); clear a b c d e; omega
set_option maxHeartbeats 20000000 in
set_option maxRecDepth 100000 in
theorem law_loop {p : Program} {l : Launch} {e : Env} {R : Room} {s : State} {m : MethodId} {args : Array Value} {below : List Frame} {meth : Method} {c : Code} {Q : State → Prop} {G : xG} {b L : Nat} {xs : Nat → Int32} {nm : String} (hst : l.stackTraces = false) (hRf : R.frames = 2048) {C9 S9 : Nat} (hRc : R.cells = C9) (hRs : R.slots = S9) (hC9 : 513000 ≤ C9) (hS9 : 6932000 ≤ S9) (hRl : R.locals = 84000) (hC : xB p s m args meth c cL_law 7 "RangeledgerLaw" nm wsL_law (some .boolean) G (xA (fun _ => none) s.heap.size)) (hX : va_X b L xs s s.heap) (hbl : b < s.heap.size) (hL : L ≤ 3072) (hend : ∀ (H : Heap) (ls : Array Slot), W p l e R s m args below meth c H [] C9 S9 Q (F0 m 2591 ls [.int (iN (1))])) {h0 a o : Nat} :
    ∀ (n9 : Nat) (i k pp : Int) (cu su : Nat) (M : HM) (s9 : ST) (S : Nat → Bool) (H : Heap) (locs : List Loc) (ls : Array Slot), (513 - k).toNat < n9 → (i = 6 * k) → (0 ≤ k ∧ k ≤ 512) → (i ≤ L) → (0 ≤ pp ∧ pp ≤ k) → ((mC S 100 : Int) ≤ pp) → ((cu : Int) ≤ 1000 * k + 100) → (BudQ pp k su) → xD G (xA (fun _ => none) s.heap.size) s M H locs → LwS G M h0 a o k s9 S → lv_has ls 7 [(0, .ref b), (1, .ref h0), (2, .ref a), (3, .ref o), (4, .int (iN (i)))] → W p l e R s m args below meth c H locs cu su Q (F0 m 27 ls []) := by
  intro n9
  induction n9 with
  | zero => intro i k pp cu su M s9 S H locs ls hmu; exact absurd hmu (Nat.not_lt_zero _)
  | succ n9 ih =>
    intro i k pp cu su M s9 S H locs ls hmu hik hk hiL hpp hmc hcu hsu hw hS hl
    have hbA : ¬ (xA (fun _ => none) s.heap.size) b := fun h9 => h9.elim (fun h8 => h8 rfl) (fun h8 => by omega)
    refine lv_iload hC.1 hC.2.1 dL_law_27 (lv_at hl 4 rfl) ?_
    refine lv_aload_n hC.1 hC.2.1 dL_law_29 rfl (lv_at hl 0 rfl) ?_
    refine x_slen hC hw hX hbl hbA dL_law_30 ?_
    refine x_bipush hC dL_law_31 (by decide +kernel) ?_
    refine x_isub hC dL_law_33 ?_
    refine x_icmp_gt (tgt := 2590) hC ⟨by omega, by omega⟩ ⟨by omega, by omega⟩ dL_law_34 (by decide) (fun c1 => ?_) (fun c1 => ?_)
    · refine x_const hC dL_law_2590 ?_
      refine va_forget (fun q hq => (hw.2.2.2 q hq).elim (fun h => absurd rfl h) id) ?_
      refine W.widen (k := C9) (n := S9) (by omega) (hsu.fin (by omega) hS9) ?_
      exact hend _ _
    · skip
      refine lv_aload_n hC.1 hC.2.1 dL_law_37 rfl (lv_at hl 0 rfl) ?_
      refine lv_iload hC.1 hC.2.1 dL_law_38 (lv_at hl 4 rfl) ?_
      refine x_sld hC hw hX hbl hbA (by omega) (by omega) (by omega) dL_law_40 ?_
      obtain ⟨z_1, hz_1⟩ : ∃ z : Int, z = (xs (i).toNat).toInt := ⟨_, rfl⟩
      rw [← hz_1]
      have hrz_1 : -2147483648 ≤ z_1 ∧ z_1 ≤ 2147483647 := by rw [hz_1]; exact iN_rng _
      refine x_bipush hC dL_law_41 (by decide +kernel) ?_
      refine x_iand hC dL_law_43 (fun z_2 hrz_2 => ?_)
      by_cases e0 : z_2 = 0
      · skip
        refine x_tsw (off := 228) (tgt := 272) (k := 0) hC (by omega) dL_law_44 (by decide) (by decide) rfl (by decide) ?_
        refine k_0 hst hRf hRc hRs hC9 hS9 hRl hC hX hbl hL (show k ≤ 590 by omega) hw hS hl (by omega) (by omega) (hsu.room (by omega) hS9) (fun M1 H1 locs1 ls1 s1 S1 hw hS hl hg => ?_)
        refine x_iinc (lv' := [(4, .int (iN (i + 6))), (0, .ref b), (1, .ref h0), (2, .ref a), (3, .ref o)]) hC dL_law_2584 hl (k := 4) rfl (by decide) rfl (fun ls hl => ?_)
        refine lv_goto (tgt := 27) hC.1 hC.2.1 dL_law_2587 (by decide) ?_
        exact ih (i + 6) (k + 1) (pp + 1) (cu + 3) (su + (18)) _ _ _ _ _ _ (by first | exact mu_s hmu (by omega) | omega) (by omega) (by omega) (by omega) (by omega) (by omega) (by omega) (hsu.grow (by decide)) hw hS (lv_sub hl [1, 2, 3, 4, 0] rfl)
      by_cases e1 : z_2 = 1
      · skip
        clear e0
        refine x_tsw (off := 280) (tgt := 324) (k := 1) hC (by omega) dL_law_44 (by decide) (by decide) rfl (by decide) ?_
        refine k_1 hst hRf hRc hRs hC9 hS9 hRl hC hX hbl hL (show k ≤ 590 by omega) hw hS hl (by omega) (by omega) (hsu.room (by omega) hS9) (fun M1 H1 locs1 ls1 s1 S1 hw hS hl hg => ?_)
        refine x_iinc (lv' := [(4, .int (iN (i + 6))), (0, .ref b), (1, .ref h0), (2, .ref a), (3, .ref o)]) hC dL_law_2584 hl (k := 4) rfl (by decide) rfl (fun ls hl => ?_)
        refine lv_goto (tgt := 27) hC.1 hC.2.1 dL_law_2587 (by decide) ?_
        exact ih (i + 6) (k + 1) (pp + 1) (cu + 3) (su + (18)) _ _ _ _ _ _ (by first | exact mu_s hmu (by omega) | omega) (by omega) (by omega) (by omega) (by omega) (by omega) (by omega) (hsu.grow (by decide)) hw hS (lv_sub hl [1, 2, 3, 4, 0] rfl)
      by_cases e2 : z_2 = 2
      · skip
        clear e0 e1
        refine x_tsw (off := 332) (tgt := 376) (k := 2) hC (by omega) dL_law_44 (by decide) (by decide) rfl (by decide) ?_
        refine k_2 hst hRf hRc hRs hC9 hS9 hRl hC hX hbl hL (show k ≤ 590 by omega) hw hS hl (by omega) (by omega) (hsu.room (by omega) hS9) (fun M1 H1 locs1 ls1 s1 S1 hw hS hl hg => ?_)
        refine x_iinc (lv' := [(4, .int (iN (i + 6))), (0, .ref b), (1, .ref h0), (2, .ref a), (3, .ref o)]) hC dL_law_2584 hl (k := 4) rfl (by decide) rfl (fun ls hl => ?_)
        refine lv_goto (tgt := 27) hC.1 hC.2.1 dL_law_2587 (by decide) ?_
        exact ih (i + 6) (k + 1) (pp + 1) (cu + 3) (su + (18)) _ _ _ _ _ _ (by first | exact mu_s hmu (by omega) | omega) (by omega) (by omega) (by omega) (by omega) (by omega) (by omega) (hsu.grow (by decide)) hw hS (lv_sub hl [1, 2, 3, 4, 0] rfl)
      by_cases e3 : z_2 = 3
      · skip
        clear e0 e1 e2
        refine x_tsw (off := 384) (tgt := 428) (k := 3) hC (by omega) dL_law_44 (by decide) (by decide) rfl (by decide) ?_
        refine k_3 hst hRf hRc hRs hC9 hS9 hRl hC hX hbl hL (show k ≤ 590 by omega) hw hS hl (by omega) (by omega) (hsu.room (by omega) hS9) (fun M1 H1 locs1 ls1 s1 S1 hw hS hl hg => ?_)
        refine x_iinc (lv' := [(4, .int (iN (i + 6))), (0, .ref b), (1, .ref h0), (2, .ref a), (3, .ref o)]) hC dL_law_2584 hl (k := 4) rfl (by decide) rfl (fun ls hl => ?_)
        refine lv_goto (tgt := 27) hC.1 hC.2.1 dL_law_2587 (by decide) ?_
        exact ih (i + 6) (k + 1) (pp + 1) (cu + 4) (su + (24)) _ _ _ _ _ _ (by first | exact mu_s hmu (by omega) | omega) (by omega) (by omega) (by omega) (by omega) (by omega) (by omega) (hsu.grow (by decide)) hw hS (lv_sub hl [1, 2, 3, 4, 0] rfl)
      by_cases e4 : z_2 = 4
      · skip
        clear e0 e1 e2 e3
        refine x_tsw (off := 448) (tgt := 492) (k := 4) hC (by omega) dL_law_44 (by decide) (by decide) rfl (by decide) ?_
        refine k_4 hst hRf hRc hRs hC9 hS9 hRl hC hX hbl hL (show k ≤ 590 by omega) hw hS hl (by omega) (by omega) (hsu.room (by omega) hS9) (fun M1 H1 locs1 ls1 s1 S1 hw hS hl hg => ?_)
        refine x_iinc (lv' := [(4, .int (iN (i + 6))), (0, .ref b), (1, .ref h0), (2, .ref a), (3, .ref o)]) hC dL_law_2584 hl (k := 4) rfl (by decide) rfl (fun ls hl => ?_)
        refine lv_goto (tgt := 27) hC.1 hC.2.1 dL_law_2587 (by decide) ?_
        exact ih (i + 6) (k + 1) (pp) (cu + 2) (su + (12)) _ _ _ _ _ _ (by first | exact mu_s hmu (by omega) | omega) (by omega) (by omega) (by omega) (by omega) (by omega) (by omega) (hsu.low (by decide)) hw hS (lv_sub hl [1, 2, 3, 4, 0] rfl)
      by_cases e5 : z_2 = 5
      · skip
        clear e0 e1 e2 e3 e4
        refine x_tsw (off := 488) (tgt := 532) (k := 5) hC (by omega) dL_law_44 (by decide) (by decide) rfl (by decide) ?_
        refine k_5 hst hRf hRc hRs hC9 hS9 hRl hC hX hbl hL (show k ≤ 590 by omega) hw hS hl (by omega) (by omega) (hsu.room (by omega) hS9) (fun M1 H1 locs1 ls1 s1 S1 hw hS hl hg => ?_)
        refine x_iinc (lv' := [(4, .int (iN (i + 6))), (0, .ref b), (1, .ref h0), (2, .ref a), (3, .ref o)]) hC dL_law_2584 hl (k := 4) rfl (by decide) rfl (fun ls hl => ?_)
        refine lv_goto (tgt := 27) hC.1 hC.2.1 dL_law_2587 (by decide) ?_
        exact ih (i + 6) (k + 1) (pp) (cu + 3) (su + (18)) _ _ _ _ _ _ (by first | exact mu_s hmu (by omega) | omega) (by omega) (by omega) (by omega) (by omega) (by omega) (by omega) (hsu.low (by decide)) hw hS (lv_sub hl [1, 2, 3, 4, 0] rfl)
      by_cases e6 : z_2 = 6
      · skip
        clear e0 e1 e2 e3 e4 e5
        refine x_tsw (off := 540) (tgt := 584) (k := 6) hC (by omega) dL_law_44 (by decide) (by decide) rfl (by decide) ?_
        refine k_6 hst hRf hRc hRs hC9 hS9 hRl hC hX hbl hL (show k ≤ 590 by omega) hw hS hl (by omega) (by omega) (hsu.room (by omega) hS9) (fun M1 H1 locs1 ls1 s1 S1 hw hS hl hg => ?_)
        refine x_iinc (lv' := [(4, .int (iN (i + 6))), (0, .ref b), (1, .ref h0), (2, .ref a), (3, .ref o)]) hC dL_law_2584 hl (k := 4) rfl (by decide) rfl (fun ls hl => ?_)
        refine lv_goto (tgt := 27) hC.1 hC.2.1 dL_law_2587 (by decide) ?_
        exact ih (i + 6) (k + 1) (pp + 1) (cu + 3) (su + (18)) _ _ _ _ _ _ (by first | exact mu_s hmu (by omega) | omega) (by omega) (by omega) (by omega) (by omega) (by omega) (by omega) (hsu.grow (by decide)) hw hS (lv_sub hl [1, 2, 3, 4, 0] rfl)
      by_cases e7 : z_2 = 7
      · skip
        clear e0 e1 e2 e3 e4 e5 e6
        refine x_tsw (off := 592) (tgt := 636) (k := 7) hC (by omega) dL_law_44 (by decide) (by decide) rfl (by decide) ?_
        refine k_7 hst hRf hRc hRs hC9 hS9 hRl hC hX hbl hL (show k ≤ 590 by omega) hw hS hl (by omega) (by omega) (hsu.room (by omega) hS9) (fun M1 H1 locs1 ls1 s1 S1 hw hS hl hg => ?_)
        refine x_iinc (lv' := [(4, .int (iN (i + 6))), (0, .ref b), (1, .ref h0), (2, .ref a), (3, .ref o)]) hC dL_law_2584 hl (k := 4) rfl (by decide) rfl (fun ls hl => ?_)
        refine lv_goto (tgt := 27) hC.1 hC.2.1 dL_law_2587 (by decide) ?_
        exact ih (i + 6) (k + 1) (pp + 1) (cu + 2) (su + (12)) _ _ _ _ _ _ (by first | exact mu_s hmu (by omega) | omega) (by omega) (by omega) (by omega) (by omega) (by omega) (by omega) (hsu.grow (by decide)) hw hS (lv_sub hl [1, 2, 3, 4, 0] rfl)
      by_cases e8 : z_2 = 8
      · skip
        clear e0 e1 e2 e3 e4 e5 e6 e7
        refine x_tsw (off := 632) (tgt := 676) (k := 8) hC (by omega) dL_law_44 (by decide) (by decide) rfl (by decide) ?_
        refine k_8 hst hRf hRc hRs hC9 hS9 hRl hC hX hbl hL (show k ≤ 590 by omega) hw hS hl (by omega) (by omega) (hsu.room (by omega) hS9) (fun M1 H1 locs1 ls1 s1 S1 hw hS hl hg => ?_)
        refine x_iinc (lv' := [(4, .int (iN (i + 6))), (0, .ref b), (1, .ref h0), (2, .ref a), (3, .ref o)]) hC dL_law_2584 hl (k := 4) rfl (by decide) rfl (fun ls hl => ?_)
        refine lv_goto (tgt := 27) hC.1 hC.2.1 dL_law_2587 (by decide) ?_
        exact ih (i + 6) (k + 1) (pp) (cu + 2) (su + (12)) _ _ _ _ _ _ (by first | exact mu_s hmu (by omega) | omega) (by omega) (by omega) (by omega) (by omega) (by omega) (by omega) (hsu.low (by decide)) hw hS (lv_sub hl [1, 2, 3, 4, 0] rfl)
      by_cases e9 : z_2 = 9
      · skip
        clear e0 e1 e2 e3 e4 e5 e6 e7 e8
        refine x_tsw (off := 672) (tgt := 716) (k := 9) hC (by omega) dL_law_44 (by decide) (by decide) rfl (by decide) ?_
        refine k_9 hst hRf hRc hRs hC9 hS9 hRl hC hX hbl hL (show k ≤ 590 by omega) hw hS hl (by omega) (by omega) (hsu.room (by omega) hS9) (fun M1 H1 locs1 ls1 s1 S1 hw hS hl hg => ?_)
        refine x_iinc (lv' := [(4, .int (iN (i + 6))), (0, .ref b), (1, .ref h0), (2, .ref a), (3, .ref o)]) hC dL_law_2584 hl (k := 4) rfl (by decide) rfl (fun ls hl => ?_)
        refine lv_goto (tgt := 27) hC.1 hC.2.1 dL_law_2587 (by decide) ?_
        exact ih (i + 6) (k + 1) (pp + 1) (cu + 2) (su + (12)) _ _ _ _ _ _ (by first | exact mu_s hmu (by omega) | omega) (by omega) (by omega) (by omega) (by omega) (by omega) (by omega) (hsu.grow (by decide)) hw hS (lv_sub hl [1, 2, 3, 4, 0] rfl)
      by_cases e10 : z_2 = 10
      · skip
        clear e0 e1 e2 e3 e4 e5 e6 e7 e8 e9
        refine x_tsw (off := 712) (tgt := 756) (k := 10) hC (by omega) dL_law_44 (by decide) (by decide) rfl (by decide) ?_
        refine k_10 hst hRf hRc hRs hC9 hS9 hRl hC hX hbl hL (show k ≤ 590 by omega) hw hS hl (by omega) (by omega) (hsu.room (by omega) hS9) (fun M1 H1 locs1 ls1 s1 S1 hw hS hl hg => ?_)
        refine x_iinc (lv' := [(4, .int (iN (i + 6))), (0, .ref b), (1, .ref h0), (2, .ref a), (3, .ref o)]) hC dL_law_2584 hl (k := 4) rfl (by decide) rfl (fun ls hl => ?_)
        refine lv_goto (tgt := 27) hC.1 hC.2.1 dL_law_2587 (by decide) ?_
        exact ih (i + 6) (k + 1) (pp) (cu + 2) (su + (11)) _ _ _ _ _ _ (by first | exact mu_s hmu (by omega) | omega) (by omega) (by omega) (by omega) (by omega) (by omega) (by omega) (hsu.low (by decide)) hw hS (lv_sub hl [1, 2, 3, 4, 0] rfl)
      by_cases e11 : z_2 = 11
      · skip
        clear e0 e1 e2 e3 e4 e5 e6 e7 e8 e9 e10
        refine x_tsw (off := 768) (tgt := 812) (k := 11) hC (by omega) dL_law_44 (by decide) (by decide) rfl (by decide) ?_
        refine k_11 hst hRf hRc hRs hC9 hS9 hRl hC hX hbl hL (show k ≤ 590 by omega) hw hS hl (by omega) (by omega) (hsu.room (by omega) hS9) (fun M1 H1 locs1 ls1 s1 S1 hw hS hl hg => ?_)
        refine x_iinc (lv' := [(4, .int (iN (i + 6))), (0, .ref b), (1, .ref h0), (2, .ref a), (3, .ref o)]) hC dL_law_2584 hl (k := 4) rfl (by decide) rfl (fun ls hl => ?_)
        refine lv_goto (tgt := 27) hC.1 hC.2.1 dL_law_2587 (by decide) ?_
        exact ih (i + 6) (k + 1) (pp) (cu + 2) (su + (12)) _ _ _ _ _ _ (by first | exact mu_s hmu (by omega) | omega) (by omega) (by omega) (by omega) (by omega) (by omega) (by omega) (hsu.low (by decide)) hw hS (lv_sub hl [1, 2, 3, 4, 0] rfl)
      by_cases e12 : z_2 = 12
      · skip
        clear e0 e1 e2 e3 e4 e5 e6 e7 e8 e9 e10 e11
        refine x_tsw (off := 808) (tgt := 852) (k := 12) hC (by omega) dL_law_44 (by decide) (by decide) rfl (by decide) ?_
        refine k_12 hst hRf hRc hRs hC9 hS9 hRl hC hX hbl hL (show k ≤ 590 by omega) hw hS hl (by omega) (by omega) (hsu.room (by omega) hS9) (fun M1 H1 locs1 ls1 s1 S1 hw hS hl hg => ?_)
        refine x_iinc (lv' := [(4, .int (iN (i + 6))), (0, .ref b), (1, .ref h0), (2, .ref a), (3, .ref o)]) hC dL_law_2584 hl (k := 4) rfl (by decide) rfl (fun ls hl => ?_)
        refine lv_goto (tgt := 27) hC.1 hC.2.1 dL_law_2587 (by decide) ?_
        exact ih (i + 6) (k + 1) (pp) (cu + 2) (su + (12)) _ _ _ _ _ _ (by first | exact mu_s hmu (by omega) | omega) (by omega) (by omega) (by omega) (by omega) (by omega) (by omega) (hsu.low (by decide)) hw hS (lv_sub hl [1, 2, 3, 4, 0] rfl)
      by_cases e13 : z_2 = 13
      · skip
        clear e0 e1 e2 e3 e4 e5 e6 e7 e8 e9 e10 e11 e12
        refine x_tsw (off := 848) (tgt := 892) (k := 13) hC (by omega) dL_law_44 (by decide) (by decide) rfl (by decide) ?_
        refine k_13 hst hRf hRc hRs hC9 hS9 hRl hC hX hbl hL (show k ≤ 590 by omega) hw hS hl (by omega) (by omega) (hsu.room (by omega) hS9) (fun M1 H1 locs1 ls1 s1 S1 hw hS hl hg => ?_)
        refine x_iinc (lv' := [(4, .int (iN (i + 6))), (0, .ref b), (1, .ref h0), (2, .ref a), (3, .ref o)]) hC dL_law_2584 hl (k := 4) rfl (by decide) rfl (fun ls hl => ?_)
        refine lv_goto (tgt := 27) hC.1 hC.2.1 dL_law_2587 (by decide) ?_
        exact ih (i + 6) (k + 1) (pp) (cu + 3) (su + (18)) _ _ _ _ _ _ (by first | exact mu_s hmu (by omega) | omega) (by omega) (by omega) (by omega) (by omega) (by omega) (by omega) (hsu.low (by decide)) hw hS (lv_sub hl [1, 2, 3, 4, 0] rfl)
      by_cases e14 : z_2 = 14
      · skip
        clear e0 e1 e2 e3 e4 e5 e6 e7 e8 e9 e10 e11 e12 e13
        refine x_tsw (off := 888) (tgt := 932) (k := 14) hC (by omega) dL_law_44 (by decide) (by decide) rfl (by decide) ?_
        refine k_14 hst hRf hRc hRs hC9 hS9 hRl hC hX hbl hL (show k ≤ 590 by omega) hw hS hl (by omega) (by omega) (hsu.room (by omega) hS9) (fun M1 H1 locs1 ls1 s1 S1 hw hS hl hg => ?_)
        refine x_iinc (lv' := [(4, .int (iN (i + 6))), (0, .ref b), (1, .ref h0), (2, .ref a), (3, .ref o)]) hC dL_law_2584 hl (k := 4) rfl (by decide) rfl (fun ls hl => ?_)
        refine lv_goto (tgt := 27) hC.1 hC.2.1 dL_law_2587 (by decide) ?_
        exact ih (i + 6) (k + 1) (pp) (cu + 2) (su + (11)) _ _ _ _ _ _ (by first | exact mu_s hmu (by omega) | omega) (by omega) (by omega) (by omega) (by omega) (by omega) (by omega) (hsu.low (by decide)) hw hS (lv_sub hl [1, 2, 3, 4, 0] rfl)
      by_cases e15 : z_2 = 15
      · skip
        clear e0 e1 e2 e3 e4 e5 e6 e7 e8 e9 e10 e11 e12 e13 e14
        refine x_tsw (off := 916) (tgt := 960) (k := 15) hC (by omega) dL_law_44 (by decide) (by decide) rfl (by decide) ?_
        refine k_15 hst hRf hRc hRs hC9 hS9 hRl hC hX hbl hL (show k ≤ 590 by omega) hw hS hl (by omega) (by omega) (hsu.room (by omega) hS9) (fun M1 H1 locs1 ls1 s1 S1 hw hS hl hg => ?_)
        refine x_iinc (lv' := [(4, .int (iN (i + 6))), (0, .ref b), (1, .ref h0), (2, .ref a), (3, .ref o)]) hC dL_law_2584 hl (k := 4) rfl (by decide) rfl (fun ls hl => ?_)
        refine lv_goto (tgt := 27) hC.1 hC.2.1 dL_law_2587 (by decide) ?_
        exact ih (i + 6) (k + 1) (pp) (cu + 4) (su + (23)) _ _ _ _ _ _ (by first | exact mu_s hmu (by omega) | omega) (by omega) (by omega) (by omega) (by omega) (by omega) (by omega) (hsu.low (by decide)) hw hS (lv_sub hl [1, 2, 3, 4, 0] rfl)
      by_cases e16 : z_2 = 16
      · skip
        clear e0 e1 e2 e3 e4 e5 e6 e7 e8 e9 e10 e11 e12 e13 e14 e15
        refine x_tsw (off := 956) (tgt := 1000) (k := 16) hC (by omega) dL_law_44 (by decide) (by decide) rfl (by decide) ?_
        refine k_16 hst hRf hRc hRs hC9 hS9 hRl hC hX hbl hL (show k ≤ 590 by omega) hw hS hl (by omega) (by omega) (hsu.room (by omega) hS9) (fun M1 H1 locs1 ls1 s1 S1 hw hS hl hg => ?_)
        refine x_iinc (lv' := [(4, .int (iN (i + 6))), (0, .ref b), (1, .ref h0), (2, .ref a), (3, .ref o)]) hC dL_law_2584 hl (k := 4) rfl (by decide) rfl (fun ls hl => ?_)
        refine lv_goto (tgt := 27) hC.1 hC.2.1 dL_law_2587 (by decide) ?_
        exact ih (i + 6) (k + 1) (pp) (cu + 3) (su + (18)) _ _ _ _ _ _ (by first | exact mu_s hmu (by omega) | omega) (by omega) (by omega) (by omega) (by omega) (by omega) (by omega) (hsu.low (by decide)) hw hS (lv_sub hl [1, 2, 3, 4, 0] rfl)
      by_cases e17 : z_2 = 17
      · skip
        clear e0 e1 e2 e3 e4 e5 e6 e7 e8 e9 e10 e11 e12 e13 e14 e15 e16
        refine x_tsw (off := 1025) (tgt := 1069) (k := 17) hC (by omega) dL_law_44 (by decide) (by decide) rfl (by decide) ?_
        refine k_17 hst hRf hRc hRs hC9 hS9 hRl hC hX hbl hL (show k ≤ 590 by omega) hw hS hl (by omega) (by omega) (hsu.room (by omega) hS9) (fun M1 H1 locs1 ls1 s1 S1 hw hS hl hg => ?_)
        refine x_iinc (lv' := [(4, .int (iN (i + 6))), (0, .ref b), (1, .ref h0), (2, .ref a), (3, .ref o)]) hC dL_law_2584 hl (k := 4) rfl (by decide) rfl (fun ls hl => ?_)
        refine lv_goto (tgt := 27) hC.1 hC.2.1 dL_law_2587 (by decide) ?_
        exact ih (i + 6) (k + 1) (pp) (cu + 3) (su + (18)) _ _ _ _ _ _ (by first | exact mu_s hmu (by omega) | omega) (by omega) (by omega) (by omega) (by omega) (by omega) (by omega) (hsu.low (by decide)) hw hS (lv_sub hl [1, 2, 3, 4, 0] rfl)
      by_cases e18 : z_2 = 18
      · skip
        clear e0 e1 e2 e3 e4 e5 e6 e7 e8 e9 e10 e11 e12 e13 e14 e15 e16 e17
        refine x_tsw (off := 1093) (tgt := 1137) (k := 18) hC (by omega) dL_law_44 (by decide) (by decide) rfl (by decide) ?_
        refine k_18 hst hRf hRc hRs hC9 hS9 hRl hC hX hbl hL (show k ≤ 590 by omega) hw hS hl (by omega) (by omega) (hsu.room (by omega) hS9) (fun M1 H1 locs1 ls1 s1 S1 hw hS hl hg => ?_)
        refine x_iinc (lv' := [(4, .int (iN (i + 6))), (0, .ref b), (1, .ref h0), (2, .ref a), (3, .ref o)]) hC dL_law_2584 hl (k := 4) rfl (by decide) rfl (fun ls hl => ?_)
        refine lv_goto (tgt := 27) hC.1 hC.2.1 dL_law_2587 (by decide) ?_
        exact ih (i + 6) (k + 1) (pp) (cu + 5) (su + (30)) _ _ _ _ _ _ (by first | exact mu_s hmu (by omega) | omega) (by omega) (by omega) (by omega) (by omega) (by omega) (by omega) (hsu.low (by decide)) hw hS (lv_sub hl [1, 2, 3, 4, 0] rfl)
      by_cases e19 : z_2 = 19
      · skip
        clear e0 e1 e2 e3 e4 e5 e6 e7 e8 e9 e10 e11 e12 e13 e14 e15 e16 e17 e18
        refine x_tsw (off := 1161) (tgt := 1205) (k := 19) hC (by omega) dL_law_44 (by decide) (by decide) rfl (by decide) ?_
        refine k_19 hst hRf hRc hRs hC9 hS9 hRl hC hX hbl hL (show k ≤ 590 by omega) hw hS hl (by omega) (by omega) (hsu.room (by omega) hS9) (fun M1 H1 locs1 ls1 s1 S1 hw hS hl hg => ?_)
        refine x_iinc (lv' := [(4, .int (iN (i + 6))), (0, .ref b), (1, .ref h0), (2, .ref a), (3, .ref o)]) hC dL_law_2584 hl (k := 4) rfl (by decide) rfl (fun ls hl => ?_)
        refine lv_goto (tgt := 27) hC.1 hC.2.1 dL_law_2587 (by decide) ?_
        exact ih (i + 6) (k + 1) (pp) (cu + 5) (su + (30)) _ _ _ _ _ _ (by first | exact mu_s hmu (by omega) | omega) (by omega) (by omega) (by omega) (by omega) (by omega) (by omega) (hsu.low (by decide)) hw hS (lv_sub hl [1, 2, 3, 4, 0] rfl)
      by_cases e20 : z_2 = 20
      · skip
        clear e0 e1 e2 e3 e4 e5 e6 e7 e8 e9 e10 e11 e12 e13 e14 e15 e16 e17 e18 e19
        refine x_tsw (off := 1229) (tgt := 1273) (k := 20) hC (by omega) dL_law_44 (by decide) (by decide) rfl (by decide) ?_
        refine k_20 hst hRf hRc hRs hC9 hS9 hRl hC hX hbl hL (show k ≤ 590 by omega) hw hS hl (by omega) (by omega) (hsu.room (by omega) hS9) (fun M1 H1 locs1 ls1 s1 S1 hw hS hl hg => ?_)
        refine x_iinc (lv' := [(4, .int (iN (i + 6))), (0, .ref b), (1, .ref h0), (2, .ref a), (3, .ref o)]) hC dL_law_2584 hl (k := 4) rfl (by decide) rfl (fun ls hl => ?_)
        refine lv_goto (tgt := 27) hC.1 hC.2.1 dL_law_2587 (by decide) ?_
        exact ih (i + 6) (k + 1) (pp) (cu + 7) (su + (42)) _ _ _ _ _ _ (by first | exact mu_s hmu (by omega) | omega) (by omega) (by omega) (by omega) (by omega) (by omega) (by omega) (hsu.low (by decide)) hw hS (lv_sub hl [1, 2, 3, 4, 0] rfl)
      by_cases e21 : z_2 = 21
      · skip
        clear e0 e1 e2 e3 e4 e5 e6 e7 e8 e9 e10 e11 e12 e13 e14 e15 e16 e17 e18 e19 e20
        refine x_tsw (off := 1337) (tgt := 1381) (k := 21) hC (by omega) dL_law_44 (by decide) (by decide) rfl (by decide) ?_
        refine k_21 hst hRf hRc hRs hC9 hS9 hRl hC hX hbl hL (show k ≤ 590 by omega) hw hS hl (by omega) (by omega) (hsu.room (by omega) hS9) (fun M1 H1 locs1 ls1 s1 S1 hw hS hl hg => ?_)
        refine x_iinc (lv' := [(4, .int (iN (i + 6))), (0, .ref b), (1, .ref h0), (2, .ref a), (3, .ref o)]) hC dL_law_2584 hl (k := 4) rfl (by decide) rfl (fun ls hl => ?_)
        refine lv_goto (tgt := 27) hC.1 hC.2.1 dL_law_2587 (by decide) ?_
        exact ih (i + 6) (k + 1) (pp) (cu + 7) (su + (42)) _ _ _ _ _ _ (by first | exact mu_s hmu (by omega) | omega) (by omega) (by omega) (by omega) (by omega) (by omega) (by omega) (hsu.low (by decide)) hw hS (lv_sub hl [1, 2, 3, 4, 0] rfl)
      by_cases e22 : z_2 = 22
      · skip
        clear e0 e1 e2 e3 e4 e5 e6 e7 e8 e9 e10 e11 e12 e13 e14 e15 e16 e17 e18 e19 e20 e21
        refine x_tsw (off := 1445) (tgt := 1489) (k := 22) hC (by omega) dL_law_44 (by decide) (by decide) rfl (by decide) ?_
        refine k_22 hst hRf hRc hRs hC9 hS9 hRl hC hX hbl hL (show k ≤ 590 by omega) hw hS hl (by omega) (by omega) (hsu.room (by omega) hS9) (fun M1 H1 locs1 ls1 s1 S1 hw hS hl hg => ?_)
        refine x_iinc (lv' := [(4, .int (iN (i + 6))), (0, .ref b), (1, .ref h0), (2, .ref a), (3, .ref o)]) hC dL_law_2584 hl (k := 4) rfl (by decide) rfl (fun ls hl => ?_)
        refine lv_goto (tgt := 27) hC.1 hC.2.1 dL_law_2587 (by decide) ?_
        exact ih (i + 6) (k + 1) (pp) (cu + 1) (su + (6)) _ _ _ _ _ _ (by first | exact mu_s hmu (by omega) | omega) (by omega) (by omega) (by omega) (by omega) (by omega) (by omega) (hsu.low (by decide)) hw hS (lv_sub hl [1, 2, 3, 4, 0] rfl)
      by_cases e23 : z_2 = 23
      · skip
        clear e0 e1 e2 e3 e4 e5 e6 e7 e8 e9 e10 e11 e12 e13 e14 e15 e16 e17 e18 e19 e20 e21 e22
        refine x_tsw (off := 1473) (tgt := 1517) (k := 23) hC (by omega) dL_law_44 (by decide) (by decide) rfl (by decide) ?_
        refine k_23 hst hRf hRc hRs hC9 hS9 hRl hC hX hbl hL (show k ≤ 590 by omega) hw hS hl (by omega) (by omega) (hsu.room (by omega) hS9) (fun M1 H1 locs1 ls1 s1 S1 hw hS hl hg => ?_)
        refine x_iinc (lv' := [(4, .int (iN (i + 6))), (0, .ref b), (1, .ref h0), (2, .ref a), (3, .ref o)]) hC dL_law_2584 hl (k := 4) rfl (by decide) rfl (fun ls hl => ?_)
        refine lv_goto (tgt := 27) hC.1 hC.2.1 dL_law_2587 (by decide) ?_
        exact ih (i + 6) (k + 1) (pp + 1) (cu + 3) (su + (18)) _ _ _ _ _ _ (by first | exact mu_s hmu (by omega) | omega) (by omega) (by omega) (by omega) (by omega) (by omega) (by omega) (hsu.grow (by decide)) hw hS (lv_sub hl [1, 2, 3, 4, 0] rfl)
      by_cases e24 : z_2 = 24
      · skip
        clear e0 e1 e2 e3 e4 e5 e6 e7 e8 e9 e10 e11 e12 e13 e14 e15 e16 e17 e18 e19 e20 e21 e22 e23
        refine x_tsw (off := 1525) (tgt := 1569) (k := 24) hC (by omega) dL_law_44 (by decide) (by decide) rfl (by decide) ?_
        refine k_24 hst hRf hRc hRs hC9 hS9 hRl hC hX hbl hL (show k ≤ 590 by omega) hw hS hl (by omega) (by omega) (hsu.room (by omega) hS9) (fun M1 H1 locs1 ls1 s1 S1 hw hS hl hg => ?_)
        refine x_iinc (lv' := [(4, .int (iN (i + 6))), (0, .ref b), (1, .ref h0), (2, .ref a), (3, .ref o)]) hC dL_law_2584 hl (k := 4) rfl (by decide) rfl (fun ls hl => ?_)
        refine lv_goto (tgt := 27) hC.1 hC.2.1 dL_law_2587 (by decide) ?_
        exact ih (i + 6) (k + 1) (pp) (cu + 2) (su + (12)) _ _ _ _ _ _ (by first | exact mu_s hmu (by omega) | omega) (by omega) (by omega) (by omega) (by omega) (by omega) (by omega) (hsu.low (by decide)) hw hS (lv_sub hl [1, 2, 3, 4, 0] rfl)
      by_cases e25 : z_2 = 25
      · skip
        clear e0 e1 e2 e3 e4 e5 e6 e7 e8 e9 e10 e11 e12 e13 e14 e15 e16 e17 e18 e19 e20 e21 e22 e23 e24
        refine x_tsw (off := 1565) (tgt := 1609) (k := 25) hC (by omega) dL_law_44 (by decide) (by decide) rfl (by decide) ?_
        refine k_25 hst hRf hRc hRs hC9 hS9 hRl hC hX hbl hL (show k ≤ 590 by omega) hw hS hl (by omega) (by omega) (hsu.room (by omega) hS9) (fun M1 H1 locs1 ls1 s1 S1 hw hS hl hg => ?_)
        refine x_iinc (lv' := [(4, .int (iN (i + 6))), (0, .ref b), (1, .ref h0), (2, .ref a), (3, .ref o)]) hC dL_law_2584 hl (k := 4) rfl (by decide) rfl (fun ls hl => ?_)
        refine lv_goto (tgt := 27) hC.1 hC.2.1 dL_law_2587 (by decide) ?_
        exact ih (i + 6) (k + 1) (pp + 1) (cu + 3) (su + (18)) _ _ _ _ _ _ (by first | exact mu_s hmu (by omega) | omega) (by omega) (by omega) (by omega) (by omega) (by omega) (by omega) (hsu.grow (by decide)) hw hS (lv_sub hl [1, 2, 3, 4, 0] rfl)
      by_cases e26 : z_2 = 26
      · skip
        clear e0 e1 e2 e3 e4 e5 e6 e7 e8 e9 e10 e11 e12 e13 e14 e15 e16 e17 e18 e19 e20 e21 e22 e23 e24 e25
        refine x_tsw (off := 1617) (tgt := 1661) (k := 26) hC (by omega) dL_law_44 (by decide) (by decide) rfl (by decide) ?_
        refine k_26 hst hRf hRc hRs hC9 hS9 hRl hC hX hbl hL (show k ≤ 590 by omega) hw hS hl (by omega) (by omega) (hsu.room (by omega) hS9) (fun M1 H1 locs1 ls1 s1 S1 hw hS hl hg => ?_)
        refine x_iinc (lv' := [(4, .int (iN (i + 6))), (0, .ref b), (1, .ref h0), (2, .ref a), (3, .ref o)]) hC dL_law_2584 hl (k := 4) rfl (by decide) rfl (fun ls hl => ?_)
        refine lv_goto (tgt := 27) hC.1 hC.2.1 dL_law_2587 (by decide) ?_
        exact ih (i + 6) (k + 1) (pp) (cu + 1) (su + (6)) _ _ _ _ _ _ (by first | exact mu_s hmu (by omega) | omega) (by omega) (by omega) (by omega) (by omega) (by omega) (by omega) (hsu.low (by decide)) hw hS (lv_sub hl [1, 2, 3, 4, 0] rfl)
      by_cases e27 : z_2 = 27
      · skip
        clear e0 e1 e2 e3 e4 e5 e6 e7 e8 e9 e10 e11 e12 e13 e14 e15 e16 e17 e18 e19 e20 e21 e22 e23 e24 e25 e26
        refine x_tsw (off := 1673) (tgt := 1717) (k := 27) hC (by omega) dL_law_44 (by decide) (by decide) rfl (by decide) ?_
        refine k_27 hst hRf hRc hRs hC9 hS9 hRl hC hX hbl hL (show k ≤ 590 by omega) hw hS hl (by omega) (by omega) (hsu.room (by omega) hS9) (fun M1 H1 locs1 ls1 s1 S1 hw hS hl hg => ?_)
        refine x_iinc (lv' := [(4, .int (iN (i + 6))), (0, .ref b), (1, .ref h0), (2, .ref a), (3, .ref o)]) hC dL_law_2584 hl (k := 4) rfl (by decide) rfl (fun ls hl => ?_)
        refine lv_goto (tgt := 27) hC.1 hC.2.1 dL_law_2587 (by decide) ?_
        exact ih (i + 6) (k + 1) (pp) (cu + 1) (su + (6)) _ _ _ _ _ _ (by first | exact mu_s hmu (by omega) | omega) (by omega) (by omega) (by omega) (by omega) (by omega) (by omega) (hsu.low (by decide)) hw hS (lv_sub hl [1, 2, 3, 4, 0] rfl)
      by_cases e28 : z_2 = 28
      · skip
        clear e0 e1 e2 e3 e4 e5 e6 e7 e8 e9 e10 e11 e12 e13 e14 e15 e16 e17 e18 e19 e20 e21 e22 e23 e24 e25 e26 e27
        refine x_tsw (off := 1701) (tgt := 1745) (k := 28) hC (by omega) dL_law_44 (by decide) (by decide) rfl (by decide) ?_
        refine k_28 hst hRf hRc hRs hC9 hS9 hRl hC hX hbl hL (show k ≤ 590 by omega) hw hS hl (by omega) (by omega) (hsu.room (by omega) hS9) (fun M1 H1 locs1 ls1 s1 S1 hw hS hl hg => ?_)
        refine x_iinc (lv' := [(4, .int (iN (i + 6))), (0, .ref b), (1, .ref h0), (2, .ref a), (3, .ref o)]) hC dL_law_2584 hl (k := 4) rfl (by decide) rfl (fun ls hl => ?_)
        refine lv_goto (tgt := 27) hC.1 hC.2.1 dL_law_2587 (by decide) ?_
        exact ih (i + 6) (k + 1) (pp) (cu + 4) (su + (23)) _ _ _ _ _ _ (by first | exact mu_s hmu (by omega) | omega) (by omega) (by omega) (by omega) (by omega) (by omega) (by omega) (hsu.low (by decide)) hw hS (lv_sub hl [1, 2, 3, 4, 0] rfl)
      by_cases e29 : z_2 = 29
      · skip
        clear e0 e1 e2 e3 e4 e5 e6 e7 e8 e9 e10 e11 e12 e13 e14 e15 e16 e17 e18 e19 e20 e21 e22 e23 e24 e25 e26 e27 e28
        refine x_tsw (off := 1729) (tgt := 1773) (k := 29) hC (by omega) dL_law_44 (by decide) (by decide) rfl (by decide) ?_
        refine k_29 hst hRf hRc hRs hC9 hS9 hRl hC hX hbl hL (show k ≤ 590 by omega) hw hS hl (by omega) (by omega) (hsu.room (by omega) hS9) (fun M1 H1 locs1 ls1 s1 S1 hw hS hl hg => ?_)
        refine x_iinc (lv' := [(4, .int (iN (i + 6))), (0, .ref b), (1, .ref h0), (2, .ref a), (3, .ref o)]) hC dL_law_2584 hl (k := 4) rfl (by decide) rfl (fun ls hl => ?_)
        refine lv_goto (tgt := 27) hC.1 hC.2.1 dL_law_2587 (by decide) ?_
        exact ih (i + 6) (k + 1) (pp) (cu + 3) (su + (16)) _ _ _ _ _ _ (by first | exact mu_s hmu (by omega) | omega) (by omega) (by omega) (by omega) (by omega) (by omega) (by omega) (hsu.low (by decide)) hw hS (lv_sub hl [1, 2, 3, 4, 0] rfl)
      by_cases e30 : z_2 = 30
      · skip
        clear e0 e1 e2 e3 e4 e5 e6 e7 e8 e9 e10 e11 e12 e13 e14 e15 e16 e17 e18 e19 e20 e21 e22 e23 e24 e25 e26 e27 e28 e29
        refine x_tsw (off := 1757) (tgt := 1801) (k := 30) hC (by omega) dL_law_44 (by decide) (by decide) rfl (by decide) ?_
        refine k_30 hst hRf hRc hRs hC9 hS9 hRl hC hX hbl hL (show k ≤ 590 by omega) hw hS hl (by omega) (by omega) (hsu.room (by omega) hS9) (fun M1 H1 locs1 ls1 s1 S1 hw hS hl hg => ?_)
        refine x_iinc (lv' := [(4, .int (iN (i + 6))), (0, .ref b), (1, .ref h0), (2, .ref a), (3, .ref o)]) hC dL_law_2584 hl (k := 4) rfl (by decide) rfl (fun ls hl => ?_)
        refine lv_goto (tgt := 27) hC.1 hC.2.1 dL_law_2587 (by decide) ?_
        exact ih (i + 6) (k + 1) (pp) (cu + 1) (su + (6)) _ _ _ _ _ _ (by first | exact mu_s hmu (by omega) | omega) (by omega) (by omega) (by omega) (by omega) (by omega) (by omega) (hsu.low (by decide)) hw hS (lv_sub hl [1, 2, 3, 4, 0] rfl)
      by_cases e31 : z_2 = 31
      · skip
        clear e0 e1 e2 e3 e4 e5 e6 e7 e8 e9 e10 e11 e12 e13 e14 e15 e16 e17 e18 e19 e20 e21 e22 e23 e24 e25 e26 e27 e28 e29 e30
        refine x_tsw (off := 1773) (tgt := 1817) (k := 31) hC (by omega) dL_law_44 (by decide) (by decide) rfl (by decide) ?_
        refine k_31 hst hRf hRc hRs hC9 hS9 hRl hC hX hbl hL (show k ≤ 590 by omega) hw hS hl (by omega) (by omega) (hsu.room (by omega) hS9) (fun M1 H1 locs1 ls1 s1 S1 hw hS hl hg => ?_)
        refine x_iinc (lv' := [(4, .int (iN (i + 6))), (0, .ref b), (1, .ref h0), (2, .ref a), (3, .ref o)]) hC dL_law_2584 hl (k := 4) rfl (by decide) rfl (fun ls hl => ?_)
        refine lv_goto (tgt := 27) hC.1 hC.2.1 dL_law_2587 (by decide) ?_
        exact ih (i + 6) (k + 1) (pp + 1) (cu + 3) (su + (18)) _ _ _ _ _ _ (by first | exact mu_s hmu (by omega) | omega) (by omega) (by omega) (by omega) (by omega) (by omega) (by omega) (hsu.grow (by decide)) hw hS (lv_sub hl [1, 2, 3, 4, 0] rfl)
      by_cases e32 : z_2 = 32
      · skip
        clear e0 e1 e2 e3 e4 e5 e6 e7 e8 e9 e10 e11 e12 e13 e14 e15 e16 e17 e18 e19 e20 e21 e22 e23 e24 e25 e26 e27 e28 e29 e30 e31
        refine x_tsw (off := 1801) (tgt := 1845) (k := 32) hC (by omega) dL_law_44 (by decide) (by decide) rfl (by decide) ?_
        refine k_32 hst hRf hRc hRs hC9 hS9 hRl hC hX hbl hL (show k ≤ 590 by omega) hw hS hl (by omega) (by omega) (hsu.room (by omega) hS9) (fun M1 H1 locs1 ls1 s1 S1 hw hS hl hg => ?_)
        refine x_iinc (lv' := [(4, .int (iN (i + 6))), (0, .ref b), (1, .ref h0), (2, .ref a), (3, .ref o)]) hC dL_law_2584 hl (k := 4) rfl (by decide) rfl (fun ls hl => ?_)
        refine lv_goto (tgt := 27) hC.1 hC.2.1 dL_law_2587 (by decide) ?_
        exact ih (i + 6) (k + 1) (pp) (cu + 3) (su + (17)) _ _ _ _ _ _ (by first | exact mu_s hmu (by omega) | omega) (by omega) (by omega) (by omega) (by omega) (by omega) (by omega) (hsu.low (by decide)) hw hS (lv_sub hl [1, 2, 3, 4, 0] rfl)
      by_cases e33 : z_2 = 33
      · skip
        clear e0 e1 e2 e3 e4 e5 e6 e7 e8 e9 e10 e11 e12 e13 e14 e15 e16 e17 e18 e19 e20 e21 e22 e23 e24 e25 e26 e27 e28 e29 e30 e31 e32
        refine x_tsw (off := 1817) (tgt := 1861) (k := 33) hC (by omega) dL_law_44 (by decide) (by decide) rfl (by decide) ?_
        refine k_33 hst hRf hRc hRs hC9 hS9 hRl hC hX hbl hL (show k ≤ 590 by omega) hw hS hl (by omega) (by omega) (hsu.room (by omega) hS9) (fun M1 H1 locs1 ls1 s1 S1 hw hS hl hg => ?_)
        refine x_iinc (lv' := [(4, .int (iN (i + 6))), (0, .ref b), (1, .ref h0), (2, .ref a), (3, .ref o)]) hC dL_law_2584 hl (k := 4) rfl (by decide) rfl (fun ls hl => ?_)
        refine lv_goto (tgt := 27) hC.1 hC.2.1 dL_law_2587 (by decide) ?_
        exact ih (i + 6) (k + 1) (pp) (cu + 2) (su + (11)) _ _ _ _ _ _ (by first | exact mu_s hmu (by omega) | omega) (by omega) (by omega) (by omega) (by omega) (by omega) (by omega) (hsu.low (by decide)) hw hS (lv_sub hl [1, 2, 3, 4, 0] rfl)
      by_cases e34 : z_2 = 34
      · skip
        clear e0 e1 e2 e3 e4 e5 e6 e7 e8 e9 e10 e11 e12 e13 e14 e15 e16 e17 e18 e19 e20 e21 e22 e23 e24 e25 e26 e27 e28 e29 e30 e31 e32 e33
        refine x_tsw (off := 1873) (tgt := 1917) (k := 34) hC (by omega) dL_law_44 (by decide) (by decide) rfl (by decide) ?_
        refine k_34 hst hRf hRc hRs hC9 hS9 hRl hC hX hbl hL (show k ≤ 590 by omega) hw hS hl (by omega) (by omega) (hsu.room (by omega) hS9) (fun M1 H1 locs1 ls1 s1 S1 hw hS hl hg => ?_)
        refine x_iinc (lv' := [(4, .int (iN (i + 6))), (0, .ref b), (1, .ref h0), (2, .ref a), (3, .ref o)]) hC dL_law_2584 hl (k := 4) rfl (by decide) rfl (fun ls hl => ?_)
        refine lv_goto (tgt := 27) hC.1 hC.2.1 dL_law_2587 (by decide) ?_
        exact ih (i + 6) (k + 1) (pp) (cu + 1) (su + (6)) _ _ _ _ _ _ (by first | exact mu_s hmu (by omega) | omega) (by omega) (by omega) (by omega) (by omega) (by omega) (by omega) (hsu.low (by decide)) hw hS (lv_sub hl [1, 2, 3, 4, 0] rfl)
      by_cases e35 : z_2 = 35
      · skip
        clear e0 e1 e2 e3 e4 e5 e6 e7 e8 e9 e10 e11 e12 e13 e14 e15 e16 e17 e18 e19 e20 e21 e22 e23 e24 e25 e26 e27 e28 e29 e30 e31 e32 e33 e34
        refine x_tsw (off := 1901) (tgt := 1945) (k := 35) hC (by omega) dL_law_44 (by decide) (by decide) rfl (by decide) ?_
        refine k_35 hst hRf hRc hRs hC9 hS9 hRl hC hX hbl hL (show k ≤ 590 by omega) hw hS hl (by omega) (by omega) (hsu.room (by omega) hS9) (fun M1 H1 locs1 ls1 s1 S1 hw hS hl hg => ?_)
        refine x_iinc (lv' := [(4, .int (iN (i + 6))), (0, .ref b), (1, .ref h0), (2, .ref a), (3, .ref o)]) hC dL_law_2584 hl (k := 4) rfl (by decide) rfl (fun ls hl => ?_)
        refine lv_goto (tgt := 27) hC.1 hC.2.1 dL_law_2587 (by decide) ?_
        exact ih (i + 6) (k + 1) (pp) (cu + 0) (su + (0)) _ _ _ _ _ _ (by first | exact mu_s hmu (by omega) | omega) (by omega) (by omega) (by omega) (by omega) (by omega) (by omega) (hsu.low (by decide)) hw hS (lv_sub hl [1, 2, 3, 4, 0] rfl)
      by_cases e36 : z_2 = 36
      · skip
        clear e0 e1 e2 e3 e4 e5 e6 e7 e8 e9 e10 e11 e12 e13 e14 e15 e16 e17 e18 e19 e20 e21 e22 e23 e24 e25 e26 e27 e28 e29 e30 e31 e32 e33 e34 e35
        refine x_tsw (off := 1914) (tgt := 1958) (k := 36) hC (by omega) dL_law_44 (by decide) (by decide) rfl (by decide) ?_
        refine k_36 hst hRf hRc hRs hC9 hS9 hRl hC hX hbl hL (show k ≤ 590 by omega) hw hS hl (by omega) (by omega) (hsu.room (by omega) hS9) (fun M1 H1 locs1 ls1 s1 S1 hw hS hl hg => ?_)
        refine x_iinc (lv' := [(4, .int (iN (i + 6))), (0, .ref b), (1, .ref h0), (2, .ref a), (3, .ref o)]) hC dL_law_2584 hl (k := 4) rfl (by decide) rfl (fun ls hl => ?_)
        refine lv_goto (tgt := 27) hC.1 hC.2.1 dL_law_2587 (by decide) ?_
        exact ih (i + 6) (k + 1) (pp) (cu + 2) (su + (12)) _ _ _ _ _ _ (by first | exact mu_s hmu (by omega) | omega) (by omega) (by omega) (by omega) (by omega) (by omega) (by omega) (hsu.low (by decide)) hw hS (lv_sub hl [1, 2, 3, 4, 0] rfl)
      by_cases e37 : z_2 = 37
      · skip
        clear e0 e1 e2 e3 e4 e5 e6 e7 e8 e9 e10 e11 e12 e13 e14 e15 e16 e17 e18 e19 e20 e21 e22 e23 e24 e25 e26 e27 e28 e29 e30 e31 e32 e33 e34 e35 e36
        refine x_tsw (off := 1954) (tgt := 1998) (k := 37) hC (by omega) dL_law_44 (by decide) (by decide) rfl (by decide) ?_
        refine k_37 hst hRf hRc hRs hC9 hS9 hRl hC hX hbl hL (show k ≤ 590 by omega) hw hS hl (by omega) (by omega) (hsu.room (by omega) hS9) (fun M1 H1 locs1 ls1 s1 S1 hw hS hl hg => ?_)
        refine x_iinc (lv' := [(4, .int (iN (i + 6))), (0, .ref b), (1, .ref h0), (2, .ref a), (3, .ref o)]) hC dL_law_2584 hl (k := 4) rfl (by decide) rfl (fun ls hl => ?_)
        refine lv_goto (tgt := 27) hC.1 hC.2.1 dL_law_2587 (by decide) ?_
        exact ih (i + 6) (k + 1) (pp) (cu + 3) (su + (18)) _ _ _ _ _ _ (by first | exact mu_s hmu (by omega) | omega) (by omega) (by omega) (by omega) (by omega) (by omega) (by omega) (hsu.low (by decide)) hw hS (lv_sub hl [1, 2, 3, 4, 0] rfl)
      by_cases e38 : z_2 = 38
      · skip
        clear e0 e1 e2 e3 e4 e5 e6 e7 e8 e9 e10 e11 e12 e13 e14 e15 e16 e17 e18 e19 e20 e21 e22 e23 e24 e25 e26 e27 e28 e29 e30 e31 e32 e33 e34 e35 e36 e37
        refine x_tsw (off := 2006) (tgt := 2050) (k := 38) hC (by omega) dL_law_44 (by decide) (by decide) rfl (by decide) ?_
        refine k_38 hst hRf hRc hRs hC9 hS9 hRl hC hX hbl hL (show k ≤ 590 by omega) hw hS hl (by omega) (by omega) (hsu.room (by omega) hS9) (fun M1 H1 locs1 ls1 s1 S1 hw hS hl hg => ?_)
        refine x_iinc (lv' := [(4, .int (iN (i + 6))), (0, .ref b), (1, .ref h0), (2, .ref a), (3, .ref o)]) hC dL_law_2584 hl (k := 4) rfl (by decide) rfl (fun ls hl => ?_)
        refine lv_goto (tgt := 27) hC.1 hC.2.1 dL_law_2587 (by decide) ?_
        exact ih (i + 6) (k + 1) (pp) (cu + 2) (su + (12)) _ _ _ _ _ _ (by first | exact mu_s hmu (by omega) | omega) (by omega) (by omega) (by omega) (by omega) (by omega) (by omega) (hsu.low (by decide)) hw hS (lv_sub hl [1, 2, 3, 4, 0] rfl)
      by_cases e39 : z_2 = 39
      · skip
        clear e0 e1 e2 e3 e4 e5 e6 e7 e8 e9 e10 e11 e12 e13 e14 e15 e16 e17 e18 e19 e20 e21 e22 e23 e24 e25 e26 e27 e28 e29 e30 e31 e32 e33 e34 e35 e36 e37 e38
        refine x_tsw (off := 2046) (tgt := 2090) (k := 39) hC (by omega) dL_law_44 (by decide) (by decide) rfl (by decide) ?_
        refine k_39 hst hRf hRc hRs hC9 hS9 hRl hC hX hbl hL (show k ≤ 590 by omega) hw hS hl (by omega) (by omega) (hsu.room (by omega) hS9) (fun M1 H1 locs1 ls1 s1 S1 hw hS hl hg => ?_)
        refine x_iinc (lv' := [(4, .int (iN (i + 6))), (0, .ref b), (1, .ref h0), (2, .ref a), (3, .ref o)]) hC dL_law_2584 hl (k := 4) rfl (by decide) rfl (fun ls hl => ?_)
        refine lv_goto (tgt := 27) hC.1 hC.2.1 dL_law_2587 (by decide) ?_
        exact ih (i + 6) (k + 1) (pp) (cu + 2) (su + (12)) _ _ _ _ _ _ (by first | exact mu_s hmu (by omega) | omega) (by omega) (by omega) (by omega) (by omega) (by omega) (by omega) (hsu.low (by decide)) hw hS (lv_sub hl [1, 2, 3, 4, 0] rfl)
      by_cases e40 : z_2 = 40
      · skip
        clear e0 e1 e2 e3 e4 e5 e6 e7 e8 e9 e10 e11 e12 e13 e14 e15 e16 e17 e18 e19 e20 e21 e22 e23 e24 e25 e26 e27 e28 e29 e30 e31 e32 e33 e34 e35 e36 e37 e38 e39
        refine x_tsw (off := 2086) (tgt := 2130) (k := 40) hC (by omega) dL_law_44 (by decide) (by decide) rfl (by decide) ?_
        refine k_40 hst hRf hRc hRs hC9 hS9 hRl hC hX hbl hL (show k ≤ 590 by omega) hw hS hl (by omega) (by omega) (hsu.room (by omega) hS9) (fun M1 H1 locs1 ls1 s1 S1 hw hS hl hg => ?_)
        refine x_iinc (lv' := [(4, .int (iN (i + 6))), (0, .ref b), (1, .ref h0), (2, .ref a), (3, .ref o)]) hC dL_law_2584 hl (k := 4) rfl (by decide) rfl (fun ls hl => ?_)
        refine lv_goto (tgt := 27) hC.1 hC.2.1 dL_law_2587 (by decide) ?_
        exact ih (i + 6) (k + 1) (pp) (cu + 3) (su + (17)) _ _ _ _ _ _ (by first | exact mu_s hmu (by omega) | omega) (by omega) (by omega) (by omega) (by omega) (by omega) (by omega) (hsu.low (by decide)) hw hS (lv_sub hl [1, 2, 3, 4, 0] rfl)
      by_cases e41 : z_2 = 41
      · skip
        clear e0 e1 e2 e3 e4 e5 e6 e7 e8 e9 e10 e11 e12 e13 e14 e15 e16 e17 e18 e19 e20 e21 e22 e23 e24 e25 e26 e27 e28 e29 e30 e31 e32 e33 e34 e35 e36 e37 e38 e39 e40
        refine x_tsw (off := 2126) (tgt := 2170) (k := 41) hC (by omega) dL_law_44 (by decide) (by decide) rfl (by decide) ?_
        refine k_41 hst hRf hRc hRs hC9 hS9 hRl hC hX hbl hL (show k ≤ 590 by omega) hw hS hl (by omega) (by omega) (hsu.room (by omega) hS9) (fun M1 H1 locs1 ls1 s1 S1 hw hS hl hg => ?_)
        refine x_iinc (lv' := [(4, .int (iN (i + 6))), (0, .ref b), (1, .ref h0), (2, .ref a), (3, .ref o)]) hC dL_law_2584 hl (k := 4) rfl (by decide) rfl (fun ls hl => ?_)
        refine lv_goto (tgt := 27) hC.1 hC.2.1 dL_law_2587 (by decide) ?_
        exact ih (i + 6) (k + 1) (pp) (cu + 4) (su + (23)) _ _ _ _ _ _ (by first | exact mu_s hmu (by omega) | omega) (by omega) (by omega) (by omega) (by omega) (by omega) (by omega) (hsu.low (by decide)) hw hS (lv_sub hl [1, 2, 3, 4, 0] rfl)
      by_cases e42 : z_2 = 42
      · skip
        clear e0 e1 e2 e3 e4 e5 e6 e7 e8 e9 e10 e11 e12 e13 e14 e15 e16 e17 e18 e19 e20 e21 e22 e23 e24 e25 e26 e27 e28 e29 e30 e31 e32 e33 e34 e35 e36 e37 e38 e39 e40 e41
        refine x_tsw (off := 2178) (tgt := 2222) (k := 42) hC (by omega) dL_law_44 (by decide) (by decide) rfl (by decide) ?_
        refine k_42 hst hRf hRc hRs hC9 hS9 hRl hC hX hbl hL (show k ≤ 590 by omega) hw hS hl (by omega) (by omega) (hsu.room (by omega) hS9) (fun M1 H1 locs1 ls1 s1 S1 hw hS hl hg => ?_)
        refine x_iinc (lv' := [(4, .int (iN (i + 6))), (0, .ref b), (1, .ref h0), (2, .ref a), (3, .ref o)]) hC dL_law_2584 hl (k := 4) rfl (by decide) rfl (fun ls hl => ?_)
        refine lv_goto (tgt := 27) hC.1 hC.2.1 dL_law_2587 (by decide) ?_
        exact ih (i + 6) (k + 1) (pp) (cu + 3) (su + (17)) _ _ _ _ _ _ (by first | exact mu_s hmu (by omega) | omega) (by omega) (by omega) (by omega) (by omega) (by omega) (by omega) (hsu.low (by decide)) hw hS (lv_sub hl [1, 2, 3, 4, 0] rfl)
      by_cases e43 : z_2 = 43
      · skip
        clear e0 e1 e2 e3 e4 e5 e6 e7 e8 e9 e10 e11 e12 e13 e14 e15 e16 e17 e18 e19 e20 e21 e22 e23 e24 e25 e26 e27 e28 e29 e30 e31 e32 e33 e34 e35 e36 e37 e38 e39 e40 e41 e42
        refine x_tsw (off := 2218) (tgt := 2262) (k := 43) hC (by omega) dL_law_44 (by decide) (by decide) rfl (by decide) ?_
        refine k_43 hst hRf hRc hRs hC9 hS9 hRl hC hX hbl hL (show k ≤ 590 by omega) hw hS hl (by omega) (by omega) (hsu.room (by omega) hS9) (fun M1 H1 locs1 ls1 s1 S1 hw hS hl hg => ?_)
        refine x_iinc (lv' := [(4, .int (iN (i + 6))), (0, .ref b), (1, .ref h0), (2, .ref a), (3, .ref o)]) hC dL_law_2584 hl (k := 4) rfl (by decide) rfl (fun ls hl => ?_)
        refine lv_goto (tgt := 27) hC.1 hC.2.1 dL_law_2587 (by decide) ?_
        exact ih (i + 6) (k + 1) (pp) (cu + 102) (su + (512)) _ _ _ _ _ _ (by first | exact mu_s hmu (by omega) | omega) (by omega) (by omega) (by omega) (by omega) (by omega) (by omega) (hsu.low (by decide)) hw hS (lv_sub hl [1, 2, 3, 4, 0] rfl)
      by_cases e44 : z_2 = 44
      · skip
        clear e0 e1 e2 e3 e4 e5 e6 e7 e8 e9 e10 e11 e12 e13 e14 e15 e16 e17 e18 e19 e20 e21 e22 e23 e24 e25 e26 e27 e28 e29 e30 e31 e32 e33 e34 e35 e36 e37 e38 e39 e40 e41 e42 e43
        refine x_tsw (off := 2258) (tgt := 2302) (k := 44) hC (by omega) dL_law_44 (by decide) (by decide) rfl (by decide) ?_
        by_cases hq : pp ≤ 60
        · skip
          refine k_44 hst hRf hRc hRs hC9 hS9 hRl hC hX hbl hL (show k ≤ 590 by omega) hw hS hl (by omega) (by omega) (hsu.room (by omega) hS9) (Kn := 60) (Tm := 1800) (by omega) (Or.inl ⟨rfl, rfl⟩) (fun M1 H1 locs1 ls1 s1 S1 hw hS hl hg => ?_)
          refine x_iinc (lv' := [(4, .int (iN (i + 6))), (0, .ref b), (1, .ref h0), (2, .ref a), (3, .ref o)]) hC dL_law_2584 hl (k := 4) rfl (by decide) rfl (fun ls hl => ?_)
          refine lv_goto (tgt := 27) hC.1 hC.2.1 dL_law_2587 (by decide) ?_
          exact ih (i + 6) (k + 1) (pp) (cu + 31) (su + (11706 + (1800 + 20))) _ _ _ _ _ _ (by first | exact mu_s hmu (by omega) | omega) (by omega) (by omega) (by omega) (by omega) (by omega) (by omega) (hsu.low (by decide)) hw hS (lv_sub hl [1, 2, 3, 4, 0] rfl)
        · skip
          by_cases hq2 : pp ≤ 80
          · skip
            refine k_44 hst hRf hRc hRs hC9 hS9 hRl hC hX hbl hL (show k ≤ 590 by omega) hw hS hl (by omega) (by omega) (hsu.room (by omega) hS9) (Kn := 80) (Tm := 3210) (by omega) (Or.inr (Or.inl ⟨rfl, rfl⟩)) (fun M1 H1 locs1 ls1 s1 S1 hw hS hl hg => ?_)
            refine x_iinc (lv' := [(4, .int (iN (i + 6))), (0, .ref b), (1, .ref h0), (2, .ref a), (3, .ref o)]) hC dL_law_2584 hl (k := 4) rfl (by decide) rfl (fun ls hl => ?_)
            refine lv_goto (tgt := 27) hC.1 hC.2.1 dL_law_2587 (by decide) ?_
            exact ih (i + 6) (k + 1) (pp) (cu + 31) (su + (11706 + (3210 + 20))) _ _ _ _ _ _ (by first | exact mu_s hmu (by omega) | omega) (by omega) (by omega) (by omega) (by omega) (by omega) (by omega) (hsu.mid (by omega) hq2 (by decide)) hw hS (lv_sub hl [1, 2, 3, 4, 0] rfl)
          · skip
            refine k_44 hst hRf hRc hRs hC9 hS9 hRl hC hX hbl hL (show k ≤ 590 by omega) hw hS hl (by omega) (by omega) (hsu.room (by omega) hS9) (Kn := 100) (Tm := 3410) (mC_le _ _) (Or.inr (Or.inr ⟨rfl, rfl⟩)) (fun M1 H1 locs1 ls1 s1 S1 hw hS hl hg => ?_)
            refine x_iinc (lv' := [(4, .int (iN (i + 6))), (0, .ref b), (1, .ref h0), (2, .ref a), (3, .ref o)]) hC dL_law_2584 hl (k := 4) rfl (by decide) rfl (fun ls hl => ?_)
            refine lv_goto (tgt := 27) hC.1 hC.2.1 dL_law_2587 (by decide) ?_
            exact ih (i + 6) (k + 1) (pp) (cu + 31) (su + (11706 + (3410 + 20))) _ _ _ _ _ _ (by first | exact mu_s hmu (by omega) | omega) (by omega) (by omega) (by omega) (by omega) (by omega) (by omega) (hsu.top (by omega) (by decide)) hw hS (lv_sub hl [1, 2, 3, 4, 0] rfl)
      by_cases e45 : z_2 = 45
      · skip
        clear e0 e1 e2 e3 e4 e5 e6 e7 e8 e9 e10 e11 e12 e13 e14 e15 e16 e17 e18 e19 e20 e21 e22 e23 e24 e25 e26 e27 e28 e29 e30 e31 e32 e33 e34 e35 e36 e37 e38 e39 e40 e41 e42 e43 e44
        refine x_tsw (off := 2286) (tgt := 2330) (k := 45) hC (by omega) dL_law_44 (by decide) (by decide) rfl (by decide) ?_
        refine k_45 hst hRf hRc hRs hC9 hS9 hRl hC hX hbl hL (show k ≤ 590 by omega) hw hS hl (by omega) (by omega) (hsu.room (by omega) hS9) (fun M1 H1 locs1 ls1 s1 S1 hw hS hl hg => ?_)
        refine x_iinc (lv' := [(4, .int (iN (i + 6))), (0, .ref b), (1, .ref h0), (2, .ref a), (3, .ref o)]) hC dL_law_2584 hl (k := 4) rfl (by decide) rfl (fun ls hl => ?_)
        refine lv_goto (tgt := 27) hC.1 hC.2.1 dL_law_2587 (by decide) ?_
        exact ih (i + 6) (k + 1) (pp) (cu + 2) (su + (12)) _ _ _ _ _ _ (by first | exact mu_s hmu (by omega) | omega) (by omega) (by omega) (by omega) (by omega) (by omega) (by omega) (hsu.low (by decide)) hw hS (lv_sub hl [1, 2, 3, 4, 0] rfl)
      by_cases e46 : z_2 = 46
      · skip
        clear e0 e1 e2 e3 e4 e5 e6 e7 e8 e9 e10 e11 e12 e13 e14 e15 e16 e17 e18 e19 e20 e21 e22 e23 e24 e25 e26 e27 e28 e29 e30 e31 e32 e33 e34 e35 e36 e37 e38 e39 e40 e41 e42 e43 e44 e45
        refine x_tsw (off := 2326) (tgt := 2370) (k := 46) hC (by omega) dL_law_44 (by decide) (by decide) rfl (by decide) ?_
        refine k_46 hst hRf hRc hRs hC9 hS9 hRl hC hX hbl hL (show k ≤ 590 by omega) hw hS hl (by omega) (by omega) (hsu.room (by omega) hS9) (fun M1 H1 locs1 ls1 s1 S1 hw hS hl hg => ?_)
        refine x_iinc (lv' := [(4, .int (iN (i + 6))), (0, .ref b), (1, .ref h0), (2, .ref a), (3, .ref o)]) hC dL_law_2584 hl (k := 4) rfl (by decide) rfl (fun ls hl => ?_)
        refine lv_goto (tgt := 27) hC.1 hC.2.1 dL_law_2587 (by decide) ?_
        exact ih (i + 6) (k + 1) (pp) (cu + 2) (su + (12)) _ _ _ _ _ _ (by first | exact mu_s hmu (by omega) | omega) (by omega) (by omega) (by omega) (by omega) (by omega) (by omega) (hsu.low (by decide)) hw hS (lv_sub hl [1, 2, 3, 4, 0] rfl)
      by_cases e47 : z_2 = 47
      · skip
        clear e0 e1 e2 e3 e4 e5 e6 e7 e8 e9 e10 e11 e12 e13 e14 e15 e16 e17 e18 e19 e20 e21 e22 e23 e24 e25 e26 e27 e28 e29 e30 e31 e32 e33 e34 e35 e36 e37 e38 e39 e40 e41 e42 e43 e44 e45 e46
        refine x_tsw (off := 2366) (tgt := 2410) (k := 47) hC (by omega) dL_law_44 (by decide) (by decide) rfl (by decide) ?_
        refine k_47 hst hRf hRc hRs hC9 hS9 hRl hC hX hbl hL (show k ≤ 590 by omega) hw hS hl (by omega) (by omega) (hsu.room (by omega) hS9) (fun M1 H1 locs1 ls1 s1 S1 hw hS hl hg => ?_)
        refine x_iinc (lv' := [(4, .int (iN (i + 6))), (0, .ref b), (1, .ref h0), (2, .ref a), (3, .ref o)]) hC dL_law_2584 hl (k := 4) rfl (by decide) rfl (fun ls hl => ?_)
        refine lv_goto (tgt := 27) hC.1 hC.2.1 dL_law_2587 (by decide) ?_
        exact ih (i + 6) (k + 1) (pp) (cu + 2) (su + (12)) _ _ _ _ _ _ (by first | exact mu_s hmu (by omega) | omega) (by omega) (by omega) (by omega) (by omega) (by omega) (by omega) (hsu.low (by decide)) hw hS (lv_sub hl [1, 2, 3, 4, 0] rfl)
      by_cases e48 : z_2 = 48
      · skip
        clear e0 e1 e2 e3 e4 e5 e6 e7 e8 e9 e10 e11 e12 e13 e14 e15 e16 e17 e18 e19 e20 e21 e22 e23 e24 e25 e26 e27 e28 e29 e30 e31 e32 e33 e34 e35 e36 e37 e38 e39 e40 e41 e42 e43 e44 e45 e46 e47
        refine x_tsw (off := 2406) (tgt := 2450) (k := 48) hC (by omega) dL_law_44 (by decide) (by decide) rfl (by decide) ?_
        refine k_48 hst hRf hRc hRs hC9 hS9 hRl hC hX hbl hL (show k ≤ 590 by omega) hw hS hl (by omega) (by omega) (hsu.room (by omega) hS9) (fun M1 H1 locs1 ls1 s1 S1 hw hS hl hg => ?_)
        refine x_iinc (lv' := [(4, .int (iN (i + 6))), (0, .ref b), (1, .ref h0), (2, .ref a), (3, .ref o)]) hC dL_law_2584 hl (k := 4) rfl (by decide) rfl (fun ls hl => ?_)
        refine lv_goto (tgt := 27) hC.1 hC.2.1 dL_law_2587 (by decide) ?_
        exact ih (i + 6) (k + 1) (pp) (cu + 3) (su + (18)) _ _ _ _ _ _ (by first | exact mu_s hmu (by omega) | omega) (by omega) (by omega) (by omega) (by omega) (by omega) (by omega) (hsu.low (by decide)) hw hS (lv_sub hl [1, 2, 3, 4, 0] rfl)
      by_cases e49 : z_2 = 49
      · skip
        clear e0 e1 e2 e3 e4 e5 e6 e7 e8 e9 e10 e11 e12 e13 e14 e15 e16 e17 e18 e19 e20 e21 e22 e23 e24 e25 e26 e27 e28 e29 e30 e31 e32 e33 e34 e35 e36 e37 e38 e39 e40 e41 e42 e43 e44 e45 e46 e47 e48
        refine x_tsw (off := 2458) (tgt := 2502) (k := 49) hC (by omega) dL_law_44 (by decide) (by decide) rfl (by decide) ?_
        by_cases hq : pp ≤ 60
        · skip
          refine k_49 hst hRf hRc hRs hC9 hS9 hRl hC hX hbl hL (show k ≤ 590 by omega) hw hS hl (by omega) (by omega) (hsu.room (by omega) hS9) (Kn := 60) (Tm := 1800) (by omega) (Or.inl ⟨rfl, rfl⟩) (fun M1 H1 locs1 ls1 s1 S1 hw hS hl hg => ?_)
          refine x_iinc (lv' := [(4, .int (iN (i + 6))), (0, .ref b), (1, .ref h0), (2, .ref a), (3, .ref o)]) hC dL_law_2584 hl (k := 4) rfl (by decide) rfl (fun ls hl => ?_)
          refine lv_goto (tgt := 27) hC.1 hC.2.1 dL_law_2587 (by decide) ?_
          exact ih (i + 6) (k + 1) (pp) (cu + 31) (su + (11706 + (1800 + 20))) _ _ _ _ _ _ (by first | exact mu_s hmu (by omega) | omega) (by omega) (by omega) (by omega) (by omega) (by omega) (by omega) (hsu.low (by decide)) hw hS (lv_sub hl [1, 2, 3, 4, 0] rfl)
        · skip
          by_cases hq2 : pp ≤ 80
          · skip
            refine k_49 hst hRf hRc hRs hC9 hS9 hRl hC hX hbl hL (show k ≤ 590 by omega) hw hS hl (by omega) (by omega) (hsu.room (by omega) hS9) (Kn := 80) (Tm := 3210) (by omega) (Or.inr (Or.inl ⟨rfl, rfl⟩)) (fun M1 H1 locs1 ls1 s1 S1 hw hS hl hg => ?_)
            refine x_iinc (lv' := [(4, .int (iN (i + 6))), (0, .ref b), (1, .ref h0), (2, .ref a), (3, .ref o)]) hC dL_law_2584 hl (k := 4) rfl (by decide) rfl (fun ls hl => ?_)
            refine lv_goto (tgt := 27) hC.1 hC.2.1 dL_law_2587 (by decide) ?_
            exact ih (i + 6) (k + 1) (pp) (cu + 31) (su + (11706 + (3210 + 20))) _ _ _ _ _ _ (by first | exact mu_s hmu (by omega) | omega) (by omega) (by omega) (by omega) (by omega) (by omega) (by omega) (hsu.mid (by omega) hq2 (by decide)) hw hS (lv_sub hl [1, 2, 3, 4, 0] rfl)
          · skip
            refine k_49 hst hRf hRc hRs hC9 hS9 hRl hC hX hbl hL (show k ≤ 590 by omega) hw hS hl (by omega) (by omega) (hsu.room (by omega) hS9) (Kn := 100) (Tm := 3410) (mC_le _ _) (Or.inr (Or.inr ⟨rfl, rfl⟩)) (fun M1 H1 locs1 ls1 s1 S1 hw hS hl hg => ?_)
            refine x_iinc (lv' := [(4, .int (iN (i + 6))), (0, .ref b), (1, .ref h0), (2, .ref a), (3, .ref o)]) hC dL_law_2584 hl (k := 4) rfl (by decide) rfl (fun ls hl => ?_)
            refine lv_goto (tgt := 27) hC.1 hC.2.1 dL_law_2587 (by decide) ?_
            exact ih (i + 6) (k + 1) (pp) (cu + 31) (su + (11706 + (3410 + 20))) _ _ _ _ _ _ (by first | exact mu_s hmu (by omega) | omega) (by omega) (by omega) (by omega) (by omega) (by omega) (by omega) (hsu.top (by omega) (by decide)) hw hS (lv_sub hl [1, 2, 3, 4, 0] rfl)
      by_cases e50 : z_2 = 50
      · skip
        clear e0 e1 e2 e3 e4 e5 e6 e7 e8 e9 e10 e11 e12 e13 e14 e15 e16 e17 e18 e19 e20 e21 e22 e23 e24 e25 e26 e27 e28 e29 e30 e31 e32 e33 e34 e35 e36 e37 e38 e39 e40 e41 e42 e43 e44 e45 e46 e47 e48 e49
        refine x_tsw (off := 2486) (tgt := 2530) (k := 50) hC (by omega) dL_law_44 (by decide) (by decide) rfl (by decide) ?_
        refine k_50 hst hRf hRc hRs hC9 hS9 hRl hC hX hbl hL (show k ≤ 590 by omega) hw hS hl (by omega) (by omega) (hsu.room (by omega) hS9) (fun M1 H1 locs1 ls1 s1 S1 hw hS hl hg => ?_)
        refine x_iinc (lv' := [(4, .int (iN (i + 6))), (0, .ref b), (1, .ref h0), (2, .ref a), (3, .ref o)]) hC dL_law_2584 hl (k := 4) rfl (by decide) rfl (fun ls hl => ?_)
        refine lv_goto (tgt := 27) hC.1 hC.2.1 dL_law_2587 (by decide) ?_
        exact ih (i + 6) (k + 1) (pp) (cu + 2) (su + (13)) _ _ _ _ _ _ (by first | exact mu_s hmu (by omega) | omega) (by omega) (by omega) (by omega) (by omega) (by omega) (by omega) (hsu.low (by decide)) hw hS (lv_sub hl [1, 2, 3, 4, 0] rfl)
      by_cases e51 : z_2 = 51
      · skip
        clear e0 e1 e2 e3 e4 e5 e6 e7 e8 e9 e10 e11 e12 e13 e14 e15 e16 e17 e18 e19 e20 e21 e22 e23 e24 e25 e26 e27 e28 e29 e30 e31 e32 e33 e34 e35 e36 e37 e38 e39 e40 e41 e42 e43 e44 e45 e46 e47 e48 e49 e50
        refine x_tsw (off := 2514) (tgt := 2558) (k := 51) hC (by omega) dL_law_44 (by decide) (by decide) rfl (by decide) ?_
        refine k_51 hst hRf hRc hRs hC9 hS9 hRl hC hX hbl hL (show k ≤ 590 by omega) hw hS hl (by omega) (by omega) (hsu.room (by omega) hS9) (fun M1 H1 locs1 ls1 s1 S1 hw hS hl hg => ?_)
        refine x_iinc (lv' := [(4, .int (iN (i + 6))), (0, .ref b), (1, .ref h0), (2, .ref a), (3, .ref o)]) hC dL_law_2584 hl (k := 4) rfl (by decide) rfl (fun ls hl => ?_)
        refine lv_goto (tgt := 27) hC.1 hC.2.1 dL_law_2587 (by decide) ?_
        exact ih (i + 6) (k + 1) (pp) (cu + 325) (su + (1625)) _ _ _ _ _ _ (by first | exact mu_s hmu (by omega) | omega) (by omega) (by omega) (by omega) (by omega) (by omega) (by omega) (hsu.low (by decide)) hw hS (lv_sub hl [1, 2, 3, 4, 0] rfl)
      by_cases e52 : z_2 = 52
      · skip
        clear e0 e1 e2 e3 e4 e5 e6 e7 e8 e9 e10 e11 e12 e13 e14 e15 e16 e17 e18 e19 e20 e21 e22 e23 e24 e25 e26 e27 e28 e29 e30 e31 e32 e33 e34 e35 e36 e37 e38 e39 e40 e41 e42 e43 e44 e45 e46 e47 e48 e49 e50 e51
        refine x_tsw (off := 2527) (tgt := 2571) (k := 52) hC (by omega) dL_law_44 (by decide) (by decide) rfl (by decide) ?_
        by_cases hq : pp ≤ 60
        · skip
          refine k_52 hst hRf hRc hRs hC9 hS9 hRl hC hX hbl hL (show k ≤ 590 by omega) hw hS hl (by omega) (by omega) (hsu.room (by omega) hS9) (Kn := 60) (Tm := 1800) (by omega) (Or.inl ⟨rfl, rfl⟩) (fun M1 H1 locs1 ls1 s1 S1 hw hS hl hg => ?_)
          refine x_iinc (lv' := [(4, .int (iN (i + 6))), (0, .ref b), (1, .ref h0), (2, .ref a), (3, .ref o)]) hC dL_law_2584 hl (k := 4) rfl (by decide) rfl (fun ls hl => ?_)
          refine lv_goto (tgt := 27) hC.1 hC.2.1 dL_law_2587 (by decide) ?_
          exact ih (i + 6) (k + 1) (pp) (cu + 700) (su + (0 + (4 * 1800 + 1949))) _ _ _ _ _ _ (by first | exact mu_s hmu (by omega) | omega) (by omega) (by omega) (by omega) (by omega) (by omega) (by omega) (hsu.low (by decide)) hw hS (lv_sub hl [1, 2, 3, 4, 0] rfl)
        · skip
          by_cases hq2 : pp ≤ 80
          · skip
            refine k_52 hst hRf hRc hRs hC9 hS9 hRl hC hX hbl hL (show k ≤ 590 by omega) hw hS hl (by omega) (by omega) (hsu.room (by omega) hS9) (Kn := 80) (Tm := 3210) (by omega) (Or.inr (Or.inl ⟨rfl, rfl⟩)) (fun M1 H1 locs1 ls1 s1 S1 hw hS hl hg => ?_)
            refine x_iinc (lv' := [(4, .int (iN (i + 6))), (0, .ref b), (1, .ref h0), (2, .ref a), (3, .ref o)]) hC dL_law_2584 hl (k := 4) rfl (by decide) rfl (fun ls hl => ?_)
            refine lv_goto (tgt := 27) hC.1 hC.2.1 dL_law_2587 (by decide) ?_
            exact ih (i + 6) (k + 1) (pp) (cu + 700) (su + (0 + (4 * 3210 + 1949))) _ _ _ _ _ _ (by first | exact mu_s hmu (by omega) | omega) (by omega) (by omega) (by omega) (by omega) (by omega) (by omega) (hsu.mid (by omega) hq2 (by decide)) hw hS (lv_sub hl [1, 2, 3, 4, 0] rfl)
          · skip
            refine k_52 hst hRf hRc hRs hC9 hS9 hRl hC hX hbl hL (show k ≤ 590 by omega) hw hS hl (by omega) (by omega) (hsu.room (by omega) hS9) (Kn := 100) (Tm := 3410) (mC_le _ _) (Or.inr (Or.inr ⟨rfl, rfl⟩)) (fun M1 H1 locs1 ls1 s1 S1 hw hS hl hg => ?_)
            refine x_iinc (lv' := [(4, .int (iN (i + 6))), (0, .ref b), (1, .ref h0), (2, .ref a), (3, .ref o)]) hC dL_law_2584 hl (k := 4) rfl (by decide) rfl (fun ls hl => ?_)
            refine lv_goto (tgt := 27) hC.1 hC.2.1 dL_law_2587 (by decide) ?_
            exact ih (i + 6) (k + 1) (pp) (cu + 700) (su + (0 + (4 * 3410 + 1949))) _ _ _ _ _ _ (by first | exact mu_s hmu (by omega) | omega) (by omega) (by omega) (by omega) (by omega) (by omega) (by omega) (hsu.top (by omega) (by decide)) hw hS (lv_sub hl [1, 2, 3, 4, 0] rfl)
      refine x_tswd (tgt := 2584) hC ⟨by omega, by omega⟩ dL_law_44 (by omega) (by decide) ?_
      clear e0 e1 e2 e3 e4 e5 e6 e7 e8 e9 e10 e11 e12 e13 e14 e15 e16 e17 e18 e19 e20 e21 e22 e23 e24 e25 e26 e27 e28 e29 e30 e31 e32 e33 e34 e35 e36 e37 e38 e39 e40 e41 e42 e43 e44 e45 e46 e47 e48 e49 e50 e51 e52
      refine x_iinc (lv' := [(4, .int (iN (i + 6))), (0, .ref b), (1, .ref h0), (2, .ref a), (3, .ref o)]) hC dL_law_2584 hl (k := 4) rfl (by decide) rfl (fun ls hl => ?_)
      refine lv_goto (tgt := 27) hC.1 hC.2.1 dL_law_2587 (by decide) ?_
      exact ih (i + 6) (k + 1) (pp) cu su _ _ _ _ _ _ (by first | exact mu_s hmu (by omega) | omega) (by omega) (by omega) (by omega) (by omega) (by omega) (by omega) (hsu.stay) hw (hS.le (show k ≤ k + 1 by omega) (by omega)) (lv_sub hl [1, 2, 3, 4, 0] rfl)
