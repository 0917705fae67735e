/-! QuotaLawsLaw law ([I)Z -/
def f_QuotaLawsLaw_law_1342 (sc : Nat × (Nat → Int32)) (rec18 : Nat → Nat → Int32 → mH → Option (Int32 × mH)) (b1 : Nat) (b2 : Nat) (b3 : Int32) (h : mH) : Option (Int32 × mH) :=
  rec18 b1 b2 (b3 + (5 : Int32)) h
set_option maxRecDepth 20000 in
theorem t_QuotaLawsLaw_law_1342 {sc : Nat × (Nat → Int32)} (rec18 : Nat → Nat → Int32 → mH → Option (Int32 × mH)) (hrec18 : ∀ (b1 : Nat) (b2 : Nat) (b3 : Int32) (h : mH) (r : Int32) (h' : mH), rec18 b1 b2 b3 h = some (r, h') → G sc y_QuotaLawsLaw_law code 4 (some .boolean) 8 176 18 [(0, .ref 1300), (1, .ref b1), (2, .ref b2), (3, .int b3)] [] h (some (.int r)) h') (b1 : Nat) (b2 : Nat) (b3 : Int32) (h : mH) (r : Int32) (h' : mH) (hf : f_QuotaLawsLaw_law_1342 sc rec18 b1 b2 b3 h = some (r, h')) : G sc y_QuotaLawsLaw_law code 4 (some .boolean) 8 176 1342 [(0, .ref 1300), (1, .ref b1), (2, .ref b2), (3, .int b3)] [] h (some (.int r)) h' := by
  unfold f_QuotaLawsLaw_law_1342 at hf
  refine g_iinc (pc := 1342) 3 (b3 + (5 : Int32)) [(3, .int (b3 + (5 : Int32))), (0, .ref 1300), (1, .ref b1), (2, .ref b2)] d_QuotaLawsLaw_law_1342 rfl rfl (Nat.le_of_ble_eq_true rfl) rfl ?_
  refine g_goto (pc := 1345) 18 d_QuotaLawsLaw_law_1345 (by decide) ?_
  refine g_lv [1, 2, 3, 0] rfl ?_
  exact hrec18 _ _ _ _ _ _  hf
def f_QuotaLawsLaw_law_653 (sc : Nat × (Nat → Int32)) (rec18 : Nat → Nat → Int32 → mH → Option (Int32 × mH)) (b1 : Nat) (b2 : Nat) (b3 : Int32) (s0 : Nat) (s1 : Int32) (s2 : Int32) (s3 : Int32) (h : mH) : Option (Int32 × mH) :=
  bd1 (kC h s0 8) fun _ =>
  bd2 (f_M_want s0 s1 s2 s3 h) fun x653 h651 =>
  f_QuotaLawsLaw_law_1342 sc rec18 b1 b2 b3 h651
set_option maxRecDepth 20000 in
theorem t_QuotaLawsLaw_law_653 {sc : Nat × (Nat → Int32)} (rec18 : Nat → Nat → Int32 → mH → Option (Int32 × mH)) (hrec18 : ∀ (b1 : Nat) (b2 : Nat) (b3 : Int32) (h : mH) (r : Int32) (h' : mH), rec18 b1 b2 b3 h = some (r, h') → G sc y_QuotaLawsLaw_law code 4 (some .boolean) 8 176 18 [(0, .ref 1300), (1, .ref b1), (2, .ref b2), (3, .int b3)] [] h (some (.int r)) h') (b1 : Nat) (b2 : Nat) (b3 : Int32) (s0 : Nat) (s1 : Int32) (s2 : Int32) (s3 : Int32) (h : mH) (r : Int32) (h' : mH) (hf : f_QuotaLawsLaw_law_653 sc rec18 b1 b2 b3 s0 s1 s2 s3 h = some (r, h')) : G sc y_QuotaLawsLaw_law code 4 (some .boolean) 8 176 653 [(0, .ref 1300), (1, .ref b1), (2, .ref b2), (3, .int b3)] [.int s3, .int s2, .int s1, .ref s0] h (some (.int r)) h' := by
  unfold f_QuotaLawsLaw_law_653 at hf
  obtain ⟨u650, e649, hf⟩ := bd1_e hf
  obtain ⟨x653, h651, e652, hf⟩ := bd2_e hf
  refine g_callV (pc := 653) (ci := 8) [.int s1, .int s2, .int s3] (site_of si_M_want (by decide) (by decide)) wd_1217 wd_1218 wd_1219 d_QuotaLawsLaw_law_653 rfl e649 (Nat.le_of_ble_eq_true rfl) (fun z => absurd z (by decide)) (fun z => absurd z (by decide)) (fun z => absurd z (by decide)) (c_M_want e652) rfl ?_
  refine g_st [.int x653] rfl ?_
  refine g_pop (pc := 656) d_QuotaLawsLaw_law_656 rfl ?_
  refine g_goto (pc := 657) 1342 d_QuotaLawsLaw_law_657 (by decide) ?_
  refine g_lv [0, 1, 2, 3] rfl ?_
  exact t_QuotaLawsLaw_law_1342 rec18 hrec18 _ _ _ _ _ _  hf
def f_QuotaLawsLaw_law_625 (sc : Nat × (Nat → Int32)) (rec18 : Nat → Nat → Int32 → mH → Option (Int32 × mH)) (b1 : Nat) (b2 : Nat) (b3 : Int32) (s0 : Nat) (s1 : Int32) (s2 : Int32) (s3 : Int32) (h : mH) : Option (Int32 × mH) :=
  bd1 (kC h s0 0) fun _ =>
  bd2 (f_Q_want s0 s1 s2 s3 h) fun x641 h639 =>
  bd1 (sX sc (b3 + (1 : Int32))) fun x642 =>
  bd1 (sX sc (b3 + (2 : Int32))) fun x644 =>
  bd1 (sX sc (b3 + (3 : Int32))) fun x646 =>
  if x646 = 0 then
    f_QuotaLawsLaw_law_653 sc rec18 b1 b2 b3 b2 x642 x644 (0 : Int32) h639
  else
    f_QuotaLawsLaw_law_653 sc rec18 b1 b2 b3 b2 x642 x644 (1 : Int32) h639
set_option maxRecDepth 20000 in
theorem t_QuotaLawsLaw_law_625 {sc : Nat × (Nat → Int32)} (rec18 : Nat → Nat → Int32 → mH → Option (Int32 × mH)) (hrec18 : ∀ (b1 : Nat) (b2 : Nat) (b3 : Int32) (h : mH) (r : Int32) (h' : mH), rec18 b1 b2 b3 h = some (r, h') → G sc y_QuotaLawsLaw_law code 4 (some .boolean) 8 176 18 [(0, .ref 1300), (1, .ref b1), (2, .ref b2), (3, .int b3)] [] h (some (.int r)) h') (b1 : Nat) (b2 : Nat) (b3 : Int32) (s0 : Nat) (s1 : Int32) (s2 : Int32) (s3 : Int32) (h : mH) (r : Int32) (h' : mH) (hf : f_QuotaLawsLaw_law_625 sc rec18 b1 b2 b3 s0 s1 s2 s3 h = some (r, h')) : G sc y_QuotaLawsLaw_law code 4 (some .boolean) 8 176 625 [(0, .ref 1300), (1, .ref b1), (2, .ref b2), (3, .int b3)] [.int s3, .int s2, .int s1, .ref s0] h (some (.int r)) h' := by
  unfold f_QuotaLawsLaw_law_625 at hf
  obtain ⟨u638, e637, hf⟩ := bd1_e hf
  obtain ⟨x641, h639, e640, hf⟩ := bd2_e hf
  refine g_callV (pc := 625) (ci := 0) [.int s1, .int s2, .int s3] (site_of si_Q_want (by decide) (by decide)) wd_602 wd_603 wd_604 d_QuotaLawsLaw_law_625 rfl e637 (Nat.le_of_ble_eq_true rfl) (fun z => absurd z (by decide)) (fun z => absurd z (by decide)) (fun z => absurd z (by decide)) (c_Q_want e640) rfl ?_
  refine g_st [.int x641] rfl ?_
  refine g_pop (pc := 628) d_QuotaLawsLaw_law_628 rfl ?_
  refine g_aload_n (pc := 629) 2 d_QuotaLawsLaw_law_629 rfl rfl ?_
  refine g_aload_n (pc := 630) 0 d_QuotaLawsLaw_law_630 rfl rfl ?_
  refine g_iload_n (pc := 631) 3 d_QuotaLawsLaw_law_631 rfl rfl ?_
  refine g_iconst (pc := 632) (1 : Int32) d_QuotaLawsLaw_law_632 (by decide) ?_
  refine g_iadd (pc := 633) d_QuotaLawsLaw_law_633 ?_
  obtain ⟨x642, e643, hf⟩ := bd1_e hf
  refine g_sld (pc := 634) d_QuotaLawsLaw_law_634 e643 ?_
  refine g_aload_n (pc := 635) 0 d_QuotaLawsLaw_law_635 rfl rfl ?_
  refine g_iload_n (pc := 636) 3 d_QuotaLawsLaw_law_636 rfl rfl ?_
  refine g_iconst (pc := 637) (2 : Int32) d_QuotaLawsLaw_law_637 (by decide) ?_
  refine g_iadd (pc := 638) d_QuotaLawsLaw_law_638 ?_
  obtain ⟨x644, e645, hf⟩ := bd1_e hf
  refine g_sld (pc := 639) d_QuotaLawsLaw_law_639 e645 ?_
  refine g_aload_n (pc := 640) 0 d_QuotaLawsLaw_law_640 rfl rfl ?_
  refine g_iload_n (pc := 641) 3 d_QuotaLawsLaw_law_641 rfl rfl ?_
  refine g_iconst (pc := 642) (3 : Int32) d_QuotaLawsLaw_law_642 (by decide) ?_
  refine g_iadd (pc := 643) d_QuotaLawsLaw_law_643 ?_
  obtain ⟨x646, e647, hf⟩ := bd1_e hf
  refine g_sld (pc := 644) d_QuotaLawsLaw_law_644 e647 ?_
  refine g_ifeq (pc := 645) 652 d_QuotaLawsLaw_law_645 (by decide) (fun c648 => ?_) (fun c648 => ?_)
  · replace hf := (if_pos c648).symm.trans hf
    refine g_iconst (pc := 652) (0 : Int32) d_QuotaLawsLaw_law_652 (by decide) ?_
    refine g_lv [0, 1, 2, 3] rfl ?_
    exact t_QuotaLawsLaw_law_653 rec18 hrec18 _ _ _ _ _ _ _ _ _ _  hf
  · replace hf := (if_neg c648).symm.trans hf
    refine g_iconst (pc := 648) (1 : Int32) d_QuotaLawsLaw_law_648 (by decide) ?_
    refine g_goto (pc := 649) 653 d_QuotaLawsLaw_law_649 (by decide) ?_
    refine g_lv [0, 1, 2, 3] rfl ?_
    exact t_QuotaLawsLaw_law_653 rec18 hrec18 _ _ _ _ _ _ _ _ _ _  hf
def f_QuotaLawsLaw_law_594 (sc : Nat × (Nat → Int32)) (rec18 : Nat → Nat → Int32 → mH → Option (Int32 × mH)) (b1 : Nat) (b2 : Nat) (b3 : Int32) (s0 : Nat) (s1 : Int32) (s2 : Int32) (s3 : Int32) (h : mH) : Option (Int32 × mH) :=
  bd1 (kC h s0 8) fun _ =>
  bd2 (f_M_refuse s0 s1 s2 s3 h) fun x670 h668 =>
  f_QuotaLawsLaw_law_1342 sc rec18 b1 b2 b3 h668
set_option maxRecDepth 20000 in
theorem t_QuotaLawsLaw_law_594 {sc : Nat × (Nat → Int32)} (rec18 : Nat → Nat → Int32 → mH → Option (Int32 × mH)) (hrec18 : ∀ (b1 : Nat) (b2 : Nat) (b3 : Int32) (h : mH) (r : Int32) (h' : mH), rec18 b1 b2 b3 h = some (r, h') → G sc y_QuotaLawsLaw_law code 4 (some .boolean) 8 176 18 [(0, .ref 1300), (1, .ref b1), (2, .ref b2), (3, .int b3)] [] h (some (.int r)) h') (b1 : Nat) (b2 : Nat) (b3 : Int32) (s0 : Nat) (s1 : Int32) (s2 : Int32) (s3 : Int32) (h : mH) (r : Int32) (h' : mH) (hf : f_QuotaLawsLaw_law_594 sc rec18 b1 b2 b3 s0 s1 s2 s3 h = some (r, h')) : G sc y_QuotaLawsLaw_law code 4 (some .boolean) 8 176 594 [(0, .ref 1300), (1, .ref b1), (2, .ref b2), (3, .int b3)] [.int s3, .int s2, .int s1, .ref s0] h (some (.int r)) h' := by
  unfold f_QuotaLawsLaw_law_594 at hf
  obtain ⟨u667, e666, hf⟩ := bd1_e hf
  obtain ⟨x670, h668, e669, hf⟩ := bd2_e hf
  refine g_callV (pc := 594) (ci := 8) [.int s1, .int s2, .int s3] (site_of si_M_refuse (by decide) (by decide)) wd_1213 wd_1214 wd_1215 d_QuotaLawsLaw_law_594 rfl e666 (Nat.le_of_ble_eq_true rfl) (fun z => absurd z (by decide)) (fun z => absurd z (by decide)) (fun z => absurd z (by decide)) (c_M_refuse e669) rfl ?_
  refine g_st [.int x670] rfl ?_
  refine g_pop (pc := 597) d_QuotaLawsLaw_law_597 rfl ?_
  refine g_goto (pc := 598) 1342 d_QuotaLawsLaw_law_598 (by decide) ?_
  refine g_lv [0, 1, 2, 3] rfl ?_
  exact t_QuotaLawsLaw_law_1342 rec18 hrec18 _ _ _ _ _ _  hf
def f_QuotaLawsLaw_law_566 (sc : Nat × (Nat → Int32)) (rec18 : Nat → Nat → Int32 → mH → Option (Int32 × mH)) (b1 : Nat) (b2 : Nat) (b3 : Int32) (s0 : Nat) (s1 : Int32) (s2 : Int32) (s3 : Int32) (h : mH) : Option (Int32 × mH) :=
  bd1 (kC h s0 0) fun _ =>
  bd2 (f_Q_refuse s0 s1 s2 s3 h) fun x658 h656 =>
  bd1 (sX sc (b3 + (1 : Int32))) fun x659 =>
  bd1 (sX sc (b3 + (2 : Int32))) fun x661 =>
  bd1 (sX sc (b3 + (3 : Int32))) fun x663 =>
  if x663 = 0 then
    f_QuotaLawsLaw_law_594 sc rec18 b1 b2 b3 b2 x659 x661 (0 : Int32) h656
  else
    f_QuotaLawsLaw_law_594 sc rec18 b1 b2 b3 b2 x659 x661 (1 : Int32) h656
set_option maxRecDepth 20000 in
theorem t_QuotaLawsLaw_law_566 {sc : Nat × (Nat → Int32)} (rec18 : Nat → Nat → Int32 → mH → Option (Int32 × mH)) (hrec18 : ∀ (b1 : Nat) (b2 : Nat) (b3 : Int32) (h : mH) (r : Int32) (h' : mH), rec18 b1 b2 b3 h = some (r, h') → G sc y_QuotaLawsLaw_law code 4 (some .boolean) 8 176 18 [(0, .ref 1300), (1, .ref b1), (2, .ref b2), (3, .int b3)] [] h (some (.int r)) h') (b1 : Nat) (b2 : Nat) (b3 : Int32) (s0 : Nat) (s1 : Int32) (s2 : Int32) (s3 : Int32) (h : mH) (r : Int32) (h' : mH) (hf : f_QuotaLawsLaw_law_566 sc rec18 b1 b2 b3 s0 s1 s2 s3 h = some (r, h')) : G sc y_QuotaLawsLaw_law code 4 (some .boolean) 8 176 566 [(0, .ref 1300), (1, .ref b1), (2, .ref b2), (3, .int b3)] [.int s3, .int s2, .int s1, .ref s0] h (some (.int r)) h' := by
  unfold f_QuotaLawsLaw_law_566 at hf
  obtain ⟨u655, e654, hf⟩ := bd1_e hf
  obtain ⟨x658, h656, e657, hf⟩ := bd2_e hf
  refine g_callV (pc := 566) (ci := 0) [.int s1, .int s2, .int s3] (site_of si_Q_refuse (by decide) (by decide)) wd_598 wd_599 wd_600 d_QuotaLawsLaw_law_566 rfl e654 (Nat.le_of_ble_eq_true rfl) (fun z => absurd z (by decide)) (fun z => absurd z (by decide)) (fun z => absurd z (by decide)) (c_Q_refuse e657) rfl ?_
  refine g_st [.int x658] rfl ?_
  refine g_pop (pc := 569) d_QuotaLawsLaw_law_569 rfl ?_
  refine g_aload_n (pc := 570) 2 d_QuotaLawsLaw_law_570 rfl rfl ?_
  refine g_aload_n (pc := 571) 0 d_QuotaLawsLaw_law_571 rfl rfl ?_
  refine g_iload_n (pc := 572) 3 d_QuotaLawsLaw_law_572 rfl rfl ?_
  refine g_iconst (pc := 573) (1 : Int32) d_QuotaLawsLaw_law_573 (by decide) ?_
  refine g_iadd (pc := 574) d_QuotaLawsLaw_law_574 ?_
  obtain ⟨x659, e660, hf⟩ := bd1_e hf
  refine g_sld (pc := 575) d_QuotaLawsLaw_law_575 e660 ?_
  refine g_aload_n (pc := 576) 0 d_QuotaLawsLaw_law_576 rfl rfl ?_
  refine g_iload_n (pc := 577) 3 d_QuotaLawsLaw_law_577 rfl rfl ?_
  refine g_iconst (pc := 578) (2 : Int32) d_QuotaLawsLaw_law_578 (by decide) ?_
  refine g_iadd (pc := 579) d_QuotaLawsLaw_law_579 ?_
  obtain ⟨x661, e662, hf⟩ := bd1_e hf
  refine g_sld (pc := 580) d_QuotaLawsLaw_law_580 e662 ?_
  refine g_aload_n (pc := 581) 0 d_QuotaLawsLaw_law_581 rfl rfl ?_
  refine g_iload_n (pc := 582) 3 d_QuotaLawsLaw_law_582 rfl rfl ?_
  refine g_iconst (pc := 583) (3 : Int32) d_QuotaLawsLaw_law_583 (by decide) ?_
  refine g_iadd (pc := 584) d_QuotaLawsLaw_law_584 ?_
  obtain ⟨x663, e664, hf⟩ := bd1_e hf
  refine g_sld (pc := 585) d_QuotaLawsLaw_law_585 e664 ?_
  refine g_ifeq (pc := 586) 593 d_QuotaLawsLaw_law_586 (by decide) (fun c665 => ?_) (fun c665 => ?_)
  · replace hf := (if_pos c665).symm.trans hf
    refine g_iconst (pc := 593) (0 : Int32) d_QuotaLawsLaw_law_593 (by decide) ?_
    refine g_lv [0, 1, 2, 3] rfl ?_
    exact t_QuotaLawsLaw_law_594 rec18 hrec18 _ _ _ _ _ _ _ _ _ _  hf
  · replace hf := (if_neg c665).symm.trans hf
    refine g_iconst (pc := 589) (1 : Int32) d_QuotaLawsLaw_law_589 (by decide) ?_
    refine g_goto (pc := 590) 594 d_QuotaLawsLaw_law_590 (by decide) ?_
    refine g_lv [0, 1, 2, 3] rfl ?_
    exact t_QuotaLawsLaw_law_594 rec18 hrec18 _ _ _ _ _ _ _ _ _ _  hf
def f_QuotaLawsLaw_law_501 (sc : Nat × (Nat → Int32)) (rec18 : Nat → Nat → Int32 → mH → Option (Int32 × mH)) (b1 : Nat) (b2 : Nat) (b3 : Int32) (s0 : Int32) (s1 : Nat) (s2 : Int32) (s3 : Int32) (h : mH) : Option (Int32 × mH) :=
  bd1 (kC h s1 8) fun _ =>
  bd2 (f_M_watch s1 s2 s3 h) fun x685 h683 =>
  if s0 = x685 then
    f_QuotaLawsLaw_law_1342 sc rec18 b1 b2 b3 h683
  else
    some ((0 : Int32), h683)
set_option maxRecDepth 20000 in
theorem t_QuotaLawsLaw_law_501 {sc : Nat × (Nat → Int32)} (rec18 : Nat → Nat → Int32 → mH → Option (Int32 × mH)) (hrec18 : ∀ (b1 : Nat) (b2 : Nat) (b3 : Int32) (h : mH) (r : Int32) (h' : mH), rec18 b1 b2 b3 h = some (r, h') → G sc y_QuotaLawsLaw_law code 4 (some .boolean) 8 176 18 [(0, .ref 1300), (1, .ref b1), (2, .ref b2), (3, .int b3)] [] h (some (.int r)) h') (b1 : Nat) (b2 : Nat) (b3 : Int32) (s0 : Int32) (s1 : Nat) (s2 : Int32) (s3 : Int32) (h : mH) (r : Int32) (h' : mH) (hf : f_QuotaLawsLaw_law_501 sc rec18 b1 b2 b3 s0 s1 s2 s3 h = some (r, h')) : G sc y_QuotaLawsLaw_law code 4 (some .boolean) 8 176 501 [(0, .ref 1300), (1, .ref b1), (2, .ref b2), (3, .int b3)] [.int s3, .int s2, .ref s1, .int s0] h (some (.int r)) h' := by
  unfold f_QuotaLawsLaw_law_501 at hf
  obtain ⟨u682, e681, hf⟩ := bd1_e hf
  obtain ⟨x685, h683, e684, hf⟩ := bd2_e hf
  refine g_callV (pc := 501) (ci := 8) [.int s2, .int s3] (site_of si_M_watch (by decide) (by decide)) wd_1200 wd_1201 wd_1202 d_QuotaLawsLaw_law_501 rfl e681 (Nat.le_of_ble_eq_true rfl) (fun z => absurd z (by decide)) (fun z => absurd z (by decide)) (fun z => absurd z (by decide)) (c_M_watch e684) rfl ?_
  refine g_st [.int x685, .int s0] rfl ?_
  refine g_icmpeq (pc := 504) 1342 d_QuotaLawsLaw_law_504 (by decide) (fun c686 => ?_) (fun c686 => ?_)
  · replace hf := (if_pos c686).symm.trans hf
    refine g_lv [0, 1, 2, 3] rfl ?_
    exact t_QuotaLawsLaw_law_1342 rec18 hrec18 _ _ _ _ _ _  hf
  · replace hf := (if_neg c686).symm.trans hf
    refine g_iconst (pc := 507) (0 : Int32) d_QuotaLawsLaw_law_507 (by decide) ?_
    obtain ⟨rfl, rfl⟩ := ret2 hf
    exact g_zret (pc := 508) rfl rfl d_QuotaLawsLaw_law_508
def f_QuotaLawsLaw_law_479 (sc : Nat × (Nat → Int32)) (rec18 : Nat → Nat → Int32 → mH → Option (Int32 × mH)) (b1 : Nat) (b2 : Nat) (b3 : Int32) (s0 : Nat) (s1 : Int32) (s2 : Int32) (h : mH) : Option (Int32 × mH) :=
  bd1 (kC h s0 0) fun _ =>
  bd2 (f_Q_watch s0 s1 s2 h) fun x675 h673 =>
  bd1 (sX sc (b3 + (1 : Int32))) fun x676 =>
  bd1 (sX sc (b3 + (2 : Int32))) fun x678 =>
  if x678 = 0 then
    f_QuotaLawsLaw_law_501 sc rec18 b1 b2 b3 x675 b2 x676 (0 : Int32) h673
  else
    f_QuotaLawsLaw_law_501 sc rec18 b1 b2 b3 x675 b2 x676 (1 : Int32) h673
set_option maxRecDepth 20000 in
theorem t_QuotaLawsLaw_law_479 {sc : Nat × (Nat → Int32)} (rec18 : Nat → Nat → Int32 → mH → Option (Int32 × mH)) (hrec18 : ∀ (b1 : Nat) (b2 : Nat) (b3 : Int32) (h : mH) (r : Int32) (h' : mH), rec18 b1 b2 b3 h = some (r, h') → G sc y_QuotaLawsLaw_law code 4 (some .boolean) 8 176 18 [(0, .ref 1300), (1, .ref b1), (2, .ref b2), (3, .int b3)] [] h (some (.int r)) h') (b1 : Nat) (b2 : Nat) (b3 : Int32) (s0 : Nat) (s1 : Int32) (s2 : Int32) (h : mH) (r : Int32) (h' : mH) (hf : f_QuotaLawsLaw_law_479 sc rec18 b1 b2 b3 s0 s1 s2 h = some (r, h')) : G sc y_QuotaLawsLaw_law code 4 (some .boolean) 8 176 479 [(0, .ref 1300), (1, .ref b1), (2, .ref b2), (3, .int b3)] [.int s2, .int s1, .ref s0] h (some (.int r)) h' := by
  unfold f_QuotaLawsLaw_law_479 at hf
  obtain ⟨u672, e671, hf⟩ := bd1_e hf
  obtain ⟨x675, h673, e674, hf⟩ := bd2_e hf
  refine g_callV (pc := 479) (ci := 0) [.int s1, .int s2] (site_of si_Q_watch (by decide) (by decide)) wd_584 wd_585 wd_586 d_QuotaLawsLaw_law_479 rfl e671 (Nat.le_of_ble_eq_true rfl) (fun z => absurd z (by decide)) (fun z => absurd z (by decide)) (fun z => absurd z (by decide)) (c_Q_watch e674) rfl ?_
  refine g_st [.int x675] rfl ?_
  refine g_aload_n (pc := 482) 2 d_QuotaLawsLaw_law_482 rfl rfl ?_
  refine g_aload_n (pc := 483) 0 d_QuotaLawsLaw_law_483 rfl rfl ?_
  refine g_iload_n (pc := 484) 3 d_QuotaLawsLaw_law_484 rfl rfl ?_
  refine g_iconst (pc := 485) (1 : Int32) d_QuotaLawsLaw_law_485 (by decide) ?_
  refine g_iadd (pc := 486) d_QuotaLawsLaw_law_486 ?_
  obtain ⟨x676, e677, hf⟩ := bd1_e hf
  refine g_sld (pc := 487) d_QuotaLawsLaw_law_487 e677 ?_
  refine g_aload_n (pc := 488) 0 d_QuotaLawsLaw_law_488 rfl rfl ?_
  refine g_iload_n (pc := 489) 3 d_QuotaLawsLaw_law_489 rfl rfl ?_
  refine g_iconst (pc := 490) (2 : Int32) d_QuotaLawsLaw_law_490 (by decide) ?_
  refine g_iadd (pc := 491) d_QuotaLawsLaw_law_491 ?_
  obtain ⟨x678, e679, hf⟩ := bd1_e hf
  refine g_sld (pc := 492) d_QuotaLawsLaw_law_492 e679 ?_
  refine g_ifeq (pc := 493) 500 d_QuotaLawsLaw_law_493 (by decide) (fun c680 => ?_) (fun c680 => ?_)
  · replace hf := (if_pos c680).symm.trans hf
    refine g_iconst (pc := 500) (0 : Int32) d_QuotaLawsLaw_law_500 (by decide) ?_
    refine g_lv [0, 1, 2, 3] rfl ?_
    exact t_QuotaLawsLaw_law_501 rec18 hrec18 _ _ _ _ _ _ _ _ _ _  hf
  · replace hf := (if_neg c680).symm.trans hf
    refine g_iconst (pc := 496) (1 : Int32) d_QuotaLawsLaw_law_496 (by decide) ?_
    refine g_goto (pc := 497) 501 d_QuotaLawsLaw_law_497 (by decide) ?_
    refine g_lv [0, 1, 2, 3] rfl ?_
    exact t_QuotaLawsLaw_law_501 rec18 hrec18 _ _ _ _ _ _ _ _ _ _  hf
def f_QuotaLawsLaw_law_18b (sc : Nat × (Nat → Int32)) (rec18 : Nat → Nat → Int32 → mH → Option (Int32 × mH)) (b1 : Nat) (b2 : Nat) (b3 : Int32) (h : mH) : Option (Int32 × mH) :=
  if ((Int32.ofNat sc.1) - (5 : Int32)) < b3 then
    some ((1 : Int32), h)
  else
    bd1 (sX sc b3) fun x19 =>
    if (x19 &&& (63 : Int32)) = (0 : Int32) then
      bd1 (sX sc (b3 + (1 : Int32))) fun x22 =>
      bd1 (kC h b1 0) fun _ =>
      bd2 (f_Q_feed b1 x22 h) fun x28 h26 =>
      bd1 (sX sc (b3 + (1 : Int32))) fun x29 =>
      bd1 (kC h26 b2 8) fun _ =>
      bd2 (f_M_feed b2 x29 h26) fun x35 h33 =>
      f_QuotaLawsLaw_law_1342 sc rec18 b1 b2 b3 h33
    else
    if (x19 &&& (63 : Int32)) = (1 : Int32) then
      bd1 (sX sc (b3 + (1 : Int32))) fun x37 =>
      bd1 (kC h b1 0) fun _ =>
      bd2 (f_Q_end b1 x37 h) fun x43 h41 =>
      bd1 (sX sc (b3 + (1 : Int32))) fun x44 =>
      bd1 (kC h41 b2 8) fun _ =>
      bd2 (f_M_end b2 x44 h41) fun x50 h48 =>
      f_QuotaLawsLaw_law_1342 sc rec18 b1 b2 b3 h48
    else
    if (x19 &&& (63 : Int32)) = (2 : Int32) then
      bd1 (kC h b1 0) fun _ =>
      bd2 (f_Q_text b1 h) fun x56 h54 =>
      bd1 (kC h54 b2 8) fun _ =>
      bd2 (f_M_text b2 h54) fun x61 h59 =>
      f_QuotaLawsLaw_law_1342 sc rec18 b1 b2 b3 h59
    else
    if (x19 &&& (63 : Int32)) = (3 : Int32) then
      bd1 (kC h b1 0) fun _ =>
      bd2 (f_Q_fault b1 h) fun x67 h65 =>
      bd1 (kC h65 b2 8) fun _ =>
      bd2 (f_M_fault b2 h65) fun x72 h70 =>
      f_QuotaLawsLaw_law_1342 sc rec18 b1 b2 b3 h70
    else
    if (x19 &&& (63 : Int32)) = (4 : Int32) then
      bd1 (sX sc (b3 + (1 : Int32))) fun x74 =>
      bd1 (kC h b1 0) fun _ =>
      bd2 (f_Q_rule b1 x74 h) fun x80 h78 =>
      bd1 (sX sc (b3 + (1 : Int32))) fun x81 =>
      bd1 (kC h78 b2 8) fun _ =>
      bd2 (f_M_rule b2 x81 h78) fun x87 h85 =>
      f_QuotaLawsLaw_law_1342 sc rec18 b1 b2 b3 h85
    else
    if (x19 &&& (63 : Int32)) = (5 : Int32) then
      bd1 (sX sc (b3 + (1 : Int32))) fun x89 =>
      bd1 (sX sc (b3 + (2 : Int32))) fun x91 =>
      bd1 (kC h b1 0) fun _ =>
      bd2 (f_Q_law b1 x89 x91 h) fun x97 h95 =>
      bd1 (sX sc (b3 + (1 : Int32))) fun x98 =>
      bd1 (sX sc (b3 + (2 : Int32))) fun x100 =>
      bd1 (kC h95 b2 8) fun _ =>
      bd2 (f_M_law b2 x98 x100 h95) fun x106 h104 =>
      f_QuotaLawsLaw_law_1342 sc rec18 b1 b2 b3 h104
    else
    if (x19 &&& (63 : Int32)) = (6 : Int32) then
      bd1 (sX sc (b3 + (1 : Int32))) fun x108 =>
      bd1 (sX sc (b3 + (2 : Int32))) fun x110 =>
      bd1 (kC h b1 0) fun _ =>
      bd2 (f_Q_one b1 x108 x110 h) fun x116 h114 =>
      bd1 (sX sc (b3 + (1 : Int32))) fun x117 =>
      bd1 (sX sc (b3 + (2 : Int32))) fun x119 =>
      bd1 (kC h114 b2 8) fun _ =>
      bd2 (f_M_one b2 x117 x119 h114) fun x125 h123 =>
      f_QuotaLawsLaw_law_1342 sc rec18 b1 b2 b3 h123
    else
    if (x19 &&& (63 : Int32)) = (7 : Int32) then
      bd1 (sX sc (b3 + (1 : Int32))) fun x127 =>
      bd1 (sX sc (b3 + (2 : Int32))) fun x129 =>
      bd1 (kC h b1 0) fun _ =>
      bd2 (f_Q_broken b1 x127 x129 h) fun x135 h133 =>
      bd1 (sX sc (b3 + (1 : Int32))) fun x136 =>
      bd1 (sX sc (b3 + (2 : Int32))) fun x138 =>
      bd1 (kC h133 b2 8) fun _ =>
      bd2 (f_M_broken b2 x136 x138 h133) fun x144 h142 =>
      f_QuotaLawsLaw_law_1342 sc rec18 b1 b2 b3 h142
    else
    if (x19 &&& (63 : Int32)) = (8 : Int32) then
      bd1 (sX sc (b3 + (1 : Int32))) fun x146 =>
      bd1 (sX sc (b3 + (2 : Int32))) fun x148 =>
      bd1 (kC h b1 0) fun _ =>
      bd2 (f_Q_quota b1 x146 x148 h) fun x154 h152 =>
      bd1 (sX sc (b3 + (1 : Int32))) fun x155 =>
      bd1 (sX sc (b3 + (2 : Int32))) fun x157 =>
      bd1 (kC h152 b2 8) fun _ =>
      bd2 (f_M_quota b2 x155 x157 h152) fun x163 h161 =>
      f_QuotaLawsLaw_law_1342 sc rec18 b1 b2 b3 h161
    else
    if (x19 &&& (63 : Int32)) = (9 : Int32) then
      bd1 (sX sc (b3 + (1 : Int32))) fun x165 =>
      bd1 (sX sc (b3 + (2 : Int32))) fun x167 =>
      bd1 (kC h b1 0) fun _ =>
      bd2 (f_Q_carry b1 x165 x167 h) fun x173 h171 =>
      bd1 (sX sc (b3 + (1 : Int32))) fun x174 =>
      bd1 (sX sc (b3 + (2 : Int32))) fun x176 =>
      bd1 (kC h171 b2 8) fun _ =>
      bd2 (f_M_carry b2 x174 x176 h171) fun x182 h180 =>
      f_QuotaLawsLaw_law_1342 sc rec18 b1 b2 b3 h180
    else
    if (x19 &&& (63 : Int32)) = (10 : Int32) then
      bd1 (sX sc (b3 + (1 : Int32))) fun x184 =>
      bd1 (sX sc (b3 + (2 : Int32))) fun x186 =>
      if x186 = 0 then
        f_QuotaLawsLaw_law_479 sc rec18 b1 b2 b3 b1 x184 (0 : Int32) h
      else
        f_QuotaLawsLaw_law_479 sc rec18 b1 b2 b3 b1 x184 (1 : Int32) h
    else
    if (x19 &&& (63 : Int32)) = (11 : Int32) then
      bd1 (sX sc (b3 + (1 : Int32))) fun x190 =>
      bd1 (sX sc (b3 + (2 : Int32))) fun x192 =>
      bd1 (kC h b1 0) fun _ =>
      bd2 (f_Q_time b1 x190 x192 h) fun x198 h196 =>
      bd1 (sX sc (b3 + (1 : Int32))) fun x199 =>
      bd1 (sX sc (b3 + (2 : Int32))) fun x201 =>
      bd1 (kC h196 b2 8) fun _ =>
      bd2 (f_M_time b2 x199 x201 h196) fun x207 h205 =>
      f_QuotaLawsLaw_law_1342 sc rec18 b1 b2 b3 h205
    else
    if (x19 &&& (63 : Int32)) = (12 : Int32) then
      bd1 (sX sc (b3 + (1 : Int32))) fun x209 =>
      bd1 (sX sc (b3 + (2 : Int32))) fun x211 =>
      bd1 (sX sc (b3 + (3 : Int32))) fun x213 =>
      if x213 = 0 then
        f_QuotaLawsLaw_law_566 sc rec18 b1 b2 b3 b1 x209 x211 (0 : Int32) h
      else
        f_QuotaLawsLaw_law_566 sc rec18 b1 b2 b3 b1 x209 x211 (1 : Int32) h
    else
    if (x19 &&& (63 : Int32)) = (13 : Int32) then
      bd1 (sX sc (b3 + (1 : Int32))) fun x217 =>
      bd1 (sX sc (b3 + (2 : Int32))) fun x219 =>
      bd1 (sX sc (b3 + (3 : Int32))) fun x221 =>
      if x221 = 0 then
        f_QuotaLawsLaw_law_625 sc rec18 b1 b2 b3 b1 x217 x219 (0 : Int32) h
      else
        f_QuotaLawsLaw_law_625 sc rec18 b1 b2 b3 b1 x217 x219 (1 : Int32) h
    else
    if (x19 &&& (63 : Int32)) = (14 : Int32) then
      bd1 (sX sc (b3 + (1 : Int32))) fun x225 =>
      bd1 (sX sc (b3 + (2 : Int32))) fun x227 =>
      bd1 (kC h b1 0) fun _ =>
      bd2 (f_Q_fund b1 x225 x227 h) fun x233 h231 =>
      bd1 (sX sc (b3 + (1 : Int32))) fun x234 =>
      bd1 (sX sc (b3 + (2 : Int32))) fun x236 =>
      bd1 (kC h231 b2 8) fun _ =>
      bd2 (f_M_fund b2 x234 x236 h231) fun x242 h240 =>
      f_QuotaLawsLaw_law_1342 sc rec18 b1 b2 b3 h240
    else
    if (x19 &&& (63 : Int32)) = (15 : Int32) then
      bd1 (sX sc (b3 + (1 : Int32))) fun x244 =>
      bd1 (kC h b1 0) fun _ =>
      bd2 (f_Q_revive b1 x244 h) fun x250 h248 =>
      bd1 (sX sc (b3 + (1 : Int32))) fun x251 =>
      bd1 (kC h248 b2 8) fun _ =>
      bd2 (f_M_revive b2 x251 h248) fun x257 h255 =>
      f_QuotaLawsLaw_law_1342 sc rec18 b1 b2 b3 h255
    else
    if (x19 &&& (63 : Int32)) = (16 : Int32) then
      bd1 (sX sc (b3 + (1 : Int32))) fun x259 =>
      bd1 (sX sc (b3 + (2 : Int32))) fun x261 =>
      bd1 (kC h b1 0) fun _ =>
      bd2 (f_Q_breaks b1 x259 x261 h) fun x267 h265 =>
      bd1 (sX sc (b3 + (1 : Int32))) fun x268 =>
      bd1 (sX sc (b3 + (2 : Int32))) fun x270 =>
      bd1 (kC h265 b2 8) fun _ =>
      bd2 (f_M_breaks b2 x268 x270 h265) fun x276 h274 =>
      f_QuotaLawsLaw_law_1342 sc rec18 b1 b2 b3 h274
    else
    if (x19 &&& (63 : Int32)) = (17 : Int32) then
      bd1 (kC h b1 0) fun _ =>
      bd2 (f_Q_year b1 h) fun x282 h280 =>
      bd1 (kC h280 b2 8) fun _ =>
      bd2 (f_M_year b2 h280) fun x287 h285 =>
      f_QuotaLawsLaw_law_1342 sc rec18 b1 b2 b3 h285
    else
    if (x19 &&& (63 : Int32)) = (18 : Int32) then
      bd1 (kC h b1 0) fun _ =>
      bd2 (f_Q_falls b1 h) fun x293 h291 =>
      bd1 (kC h291 b2 8) fun _ =>
      bd2 (f_M_falls b2 h291) fun x298 h296 =>
      f_QuotaLawsLaw_law_1342 sc rec18 b1 b2 b3 h296
    else
    if (x19 &&& (63 : Int32)) = (19 : Int32) then
      bd1 (sX sc (b3 + (1 : Int32))) fun x300 =>
      bd1 (kC h b1 0) fun _ =>
      bd2 (f_Q_most b1 x300 h) fun x306 h304 =>
      bd1 (sX sc (b3 + (1 : Int32))) fun x307 =>
      bd1 (kC h304 b2 8) fun _ =>
      bd2 (f_M_most b2 x307 h304) fun x313 h311 =>
      f_QuotaLawsLaw_law_1342 sc rec18 b1 b2 b3 h311
    else
    if (x19 &&& (63 : Int32)) = (20 : Int32) then
      bd1 (sX sc (b3 + (1 : Int32))) fun x315 =>
      bd1 (kC h b1 0) fun _ =>
      bd2 (f_Q_rota b1 x315 h) fun x321 h319 =>
      bd1 (sX sc (b3 + (1 : Int32))) fun x322 =>
      bd1 (kC h319 b2 8) fun _ =>
      bd2 (f_M_rota b2 x322 h319) fun x328 h326 =>
      f_QuotaLawsLaw_law_1342 sc rec18 b1 b2 b3 h326
    else
    if (x19 &&& (63 : Int32)) = (21 : Int32) then
      bd1 (sX sc (b3 + (1 : Int32))) fun x330 =>
      bd1 (kC h b1 0) fun _ =>
      bd2 (f_Q_more b1 x330 h) fun x336 h334 =>
      bd1 (sX sc (b3 + (1 : Int32))) fun x337 =>
      bd1 (kC h334 b2 8) fun _ =>
      bd2 (f_M_more b2 x337 h334) fun x343 h341 =>
      f_QuotaLawsLaw_law_1342 sc rec18 b1 b2 b3 h341
    else
    if (x19 &&& (63 : Int32)) = (22 : Int32) then
      bd1 (sX sc (b3 + (1 : Int32))) fun x345 =>
      bd1 (kC h b1 0) fun _ =>
      bd2 (f_Q_together b1 x345 h) fun x351 h349 =>
      bd1 (sX sc (b3 + (1 : Int32))) fun x352 =>
      bd1 (kC h349 b2 8) fun _ =>
      bd2 (f_M_together b2 x352 h349) fun x358 h356 =>
      f_QuotaLawsLaw_law_1342 sc rec18 b1 b2 b3 h356
    else
    if (x19 &&& (63 : Int32)) = (23 : Int32) then
      bd1 (sX sc (b3 + (1 : Int32))) fun x360 =>
      bd1 (sX sc (b3 + (2 : Int32))) fun x362 =>
      bd1 (kC h b1 0) fun _ =>
      bd2 (f_Q_kill b1 x360 x362 h) fun x368 h366 =>
      bd1 (sX sc (b3 + (1 : Int32))) fun x369 =>
      bd1 (sX sc (b3 + (2 : Int32))) fun x371 =>
      bd1 (kC h366 b2 8) fun _ =>
      bd2 (f_M_kill b2 x369 x371 h366) fun x377 h375 =>
      f_QuotaLawsLaw_law_1342 sc rec18 b1 b2 b3 h375
    else
    if (x19 &&& (63 : Int32)) = (24 : Int32) then
      bd1 (sX sc (b3 + (1 : Int32))) fun x379 =>
      bd1 (kC h b1 0) fun _ =>
      bd2 (f_Q_selfish b1 x379 h) fun x385 h383 =>
      bd1 (sX sc (b3 + (1 : Int32))) fun x386 =>
      bd1 (kC h383 b2 8) fun _ =>
      bd2 (f_M_selfish b2 x386 h383) fun x392 h390 =>
      f_QuotaLawsLaw_law_1342 sc rec18 b1 b2 b3 h390
    else
    if (x19 &&& (63 : Int32)) = (25 : Int32) then
      bd1 (sX sc (b3 + (1 : Int32))) fun x394 =>
      bd1 (sX sc (b3 + (2 : Int32))) fun x396 =>
      bd1 (kC h b1 0) fun _ =>
      bd2 (f_Q_luck b1 x394 x396 h) fun x402 h400 =>
      bd1 (sX sc (b3 + (1 : Int32))) fun x403 =>
      bd1 (sX sc (b3 + (2 : Int32))) fun x405 =>
      bd1 (kC h400 b2 8) fun _ =>
      bd2 (f_M_luck b2 x403 x405 h400) fun x411 h409 =>
      f_QuotaLawsLaw_law_1342 sc rec18 b1 b2 b3 h409
    else
    if (x19 &&& (63 : Int32)) = (26 : Int32) then
      bd1 (sX sc (b3 + (1 : Int32))) fun x413 =>
      bd1 (sX sc (b3 + (2 : Int32))) fun x415 =>
      bd1 (sX sc (b3 + (3 : Int32))) fun x417 =>
      bd1 (kC h b1 0) fun _ =>
      bd2 (f_Q_see b1 x413 x415 x417 h) fun x423 h421 =>
      bd1 (sX sc (b3 + (1 : Int32))) fun x424 =>
      bd1 (sX sc (b3 + (2 : Int32))) fun x426 =>
      bd1 (sX sc (b3 + (3 : Int32))) fun x428 =>
      bd1 (kC h421 b2 8) fun _ =>
      bd2 (f_M_see b2 x424 x426 x428 h421) fun x434 h432 =>
      f_QuotaLawsLaw_law_1342 sc rec18 b1 b2 b3 h432
    else
    if (x19 &&& (63 : Int32)) = (27 : Int32) then
      bd1 (sX sc (b3 + (1 : Int32))) fun x436 =>
      bd1 (kC h b1 0) fun _ =>
      bd2 (f_Q_forget b1 x436 h) fun x442 h440 =>
      bd1 (sX sc (b3 + (1 : Int32))) fun x443 =>
      bd1 (kC h440 b2 8) fun _ =>
      bd2 (f_M_forget b2 x443 h440) fun x449 h447 =>
      f_QuotaLawsLaw_law_1342 sc rec18 b1 b2 b3 h447
    else
    if (x19 &&& (63 : Int32)) = (28 : Int32) then
      bd1 (kC h b1 0) fun _ =>
      bd2 (f_Q_books b1 h) fun x455 h453 =>
      bd1 (kC h453 b2 8) fun _ =>
      bd2 (f_M_books b2 h453) fun x460 h458 =>
      f_QuotaLawsLaw_law_1342 sc rec18 b1 b2 b3 h458
    else
    if (x19 &&& (63 : Int32)) = (29 : Int32) then
      bd1 (sX sc (b3 + (1 : Int32))) fun x462 =>
      bd1 (sX sc (b3 + (2 : Int32))) fun x464 =>
      bd1 (sX sc (b3 + (3 : Int32))) fun x466 =>
      bd1 (kC h b1 0) fun _ =>
      bd2 (f_Q_entry b1 x462 x464 x466 h) fun x472 h470 =>
      bd1 (sX sc (b3 + (1 : Int32))) fun x473 =>
      bd1 (sX sc (b3 + (2 : Int32))) fun x475 =>
      bd1 (sX sc (b3 + (3 : Int32))) fun x477 =>
      bd1 (kC h470 b2 8) fun _ =>
      bd2 (f_M_entry b2 x473 x475 x477 h470) fun x483 h481 =>
      f_QuotaLawsLaw_law_1342 sc rec18 b1 b2 b3 h481
    else
    if (x19 &&& (63 : Int32)) = (30 : Int32) then
      bd1 (sX sc (b3 + (1 : Int32))) fun x485 =>
      bd1 (sX sc (b3 + (2 : Int32))) fun x487 =>
      bd1 (sX sc (b3 + (3 : Int32))) fun x489 =>
      bd1 (kC h b1 0) fun _ =>
      bd2 (f_Q_wild b1 x485 x487 x489 h) fun x495 h493 =>
      bd1 (sX sc (b3 + (1 : Int32))) fun x496 =>
      bd1 (sX sc (b3 + (2 : Int32))) fun x498 =>
      bd1 (sX sc (b3 + (3 : Int32))) fun x500 =>
      bd1 (kC h493 b2 8) fun _ =>
      bd2 (f_M_wild b2 x496 x498 x500 h493) fun x506 h504 =>
      f_QuotaLawsLaw_law_1342 sc rec18 b1 b2 b3 h504
    else
    if (x19 &&& (63 : Int32)) = (31 : Int32) then
      bd1 (sX sc (b3 + (1 : Int32))) fun x508 =>
      bd1 (kC h b1 0) fun _ =>
      bd2 (f_Q_keep b1 x508 h) fun x514 h512 =>
      bd1 (sX sc (b3 + (1 : Int32))) fun x515 =>
      bd1 (kC h512 b2 8) fun _ =>
      bd2 (f_M_keep b2 x515 h512) fun x521 h519 =>
      f_QuotaLawsLaw_law_1342 sc rec18 b1 b2 b3 h519
    else
    if (x19 &&& (63 : Int32)) = (32 : Int32) then
      bd1 (sX sc (b3 + (1 : Int32))) fun x523 =>
      bd1 (kC h b1 0) fun _ =>
      bd2 (f_Q_back b1 x523 h) fun x529 h527 =>
      bd1 (sX sc (b3 + (1 : Int32))) fun x530 =>
      bd1 (kC h527 b2 8) fun _ =>
      bd2 (f_M_back b2 x530 h527) fun x536 h534 =>
      f_QuotaLawsLaw_law_1342 sc rec18 b1 b2 b3 h534
    else
    if (x19 &&& (63 : Int32)) = (33 : Int32) then
      bd1 (sX sc (b3 + (1 : Int32))) fun x538 =>
      bd1 (sX sc (b3 + (2 : Int32))) fun x540 =>
      bd1 (sX sc (b3 + (3 : Int32))) fun x542 =>
      bd1 (kC h b1 0) fun _ =>
      bd2 (f_Q_sheet b1 x538 x540 x542 h) fun x548 h546 =>
      bd1 (sX sc (b3 + (1 : Int32))) fun x549 =>
      bd1 (sX sc (b3 + (2 : Int32))) fun x551 =>
      bd1 (sX sc (b3 + (3 : Int32))) fun x553 =>
      bd1 (kC h546 b2 8) fun _ =>
      bd2 (f_M_sheet b2 x549 x551 x553 h546) fun x559 h557 =>
      f_QuotaLawsLaw_law_1342 sc rec18 b1 b2 b3 h557
    else
    if (x19 &&& (63 : Int32)) = (34 : Int32) then
      bd1 (sX sc (b3 + (1 : Int32))) fun x561 =>
      bd1 (sX sc (b3 + (2 : Int32))) fun x563 =>
      bd1 (sX sc (b3 + (3 : Int32))) fun x565 =>
      bd1 (kC h b1 0) fun _ =>
      bd2 (f_Q_lay b1 x561 x563 x565 h) fun x571 h569 =>
      bd1 (sX sc (b3 + (1 : Int32))) fun x572 =>
      bd1 (sX sc (b3 + (2 : Int32))) fun x574 =>
      bd1 (sX sc (b3 + (3 : Int32))) fun x576 =>
      bd1 (kC h569 b2 8) fun _ =>
      bd2 (f_M_lay b2 x572 x574 x576 h569) fun x582 h580 =>
      f_QuotaLawsLaw_law_1342 sc rec18 b1 b2 b3 h580
    else
    if (x19 &&& (63 : Int32)) = (35 : Int32) then
      bd1 (sX sc (b3 + (1 : Int32))) fun x584 =>
      bd1 (sX sc (b3 + (2 : Int32))) fun x586 =>
      bd1 (sX sc (b3 + (3 : Int32))) fun x588 =>
      bd1 (sX sc (b3 + (4 : Int32))) fun x590 =>
      bd1 (kC h b1 0) fun _ =>
      bd2 (f_Q_read b1 x584 x586 x588 x590 h) fun x596 h594 =>
      bd1 (sX sc (b3 + (1 : Int32))) fun x597 =>
      bd1 (sX sc (b3 + (2 : Int32))) fun x599 =>
      bd1 (sX sc (b3 + (3 : Int32))) fun x601 =>
      bd1 (sX sc (b3 + (4 : Int32))) fun x603 =>
      bd1 (kC h594 b2 8) fun _ =>
      bd2 (f_M_read b2 x597 x599 x601 x603 h594) fun x609 h607 =>
      f_QuotaLawsLaw_law_1342 sc rec18 b1 b2 b3 h607
    else
    if (x19 &&& (63 : Int32)) = (36 : Int32) then
      bd1 (kC h b1 0) fun _ =>
      bd2 (f_Q_torn b1 h) fun x615 h613 =>
      bd1 (kC h613 b2 8) fun _ =>
      bd2 (f_M_torn b2 h613) fun x620 h618 =>
      f_QuotaLawsLaw_law_1342 sc rec18 b1 b2 b3 h618
    else
    if (x19 &&& (63 : Int32)) = (37 : Int32) then
      bd1 (sX sc (b3 + (1 : Int32))) fun x622 =>
      bd1 (kC h b1 0) fun _ =>
      bd2 (f_Q_count b1 x622 h) fun x628 h626 =>
      bd1 (sX sc (b3 + (1 : Int32))) fun x629 =>
      bd1 (kC h626 b2 8) fun _ =>
      bd2 (f_M_count b2 x629 h626) fun x635 h633 =>
      f_QuotaLawsLaw_law_1342 sc rec18 b1 b2 b3 h633
    else
    f_QuotaLawsLaw_law_1342 sc rec18 b1 b2 b3 h
set_option maxRecDepth 20000 in
theorem t_QuotaLawsLaw_law_18b {sc : Nat × (Nat → Int32)} (rec18 : Nat → Nat → Int32 → mH → Option (Int32 × mH)) (hrec18 : ∀ (b1 : Nat) (b2 : Nat) (b3 : Int32) (h : mH) (r : Int32) (h' : mH), rec18 b1 b2 b3 h = some (r, h') → G sc y_QuotaLawsLaw_law code 4 (some .boolean) 8 176 18 [(0, .ref 1300), (1, .ref b1), (2, .ref b2), (3, .int b3)] [] h (some (.int r)) h') (b1 : Nat) (b2 : Nat) (b3 : Int32) (h : mH) (r : Int32) (h' : mH) (hf : f_QuotaLawsLaw_law_18b sc rec18 b1 b2 b3 h = some (r, h')) : G sc y_QuotaLawsLaw_law code 4 (some .boolean) 8 176 18 [(0, .ref 1300), (1, .ref b1), (2, .ref b2), (3, .int b3)] [] h (some (.int r)) h' := by
  unfold f_QuotaLawsLaw_law_18b at hf
  refine g_iload_n (pc := 18) 3 d_QuotaLawsLaw_law_18 rfl rfl ?_
  refine g_aload_n (pc := 19) 0 d_QuotaLawsLaw_law_19 rfl rfl ?_
  refine g_slen (pc := 20) d_QuotaLawsLaw_law_20 ?_
  refine g_iconst (pc := 21) (5 : Int32) d_QuotaLawsLaw_law_21 (by decide) ?_
  refine g_isub (pc := 22) d_QuotaLawsLaw_law_22 ?_
  refine g_icmpgt (pc := 23) 1348 d_QuotaLawsLaw_law_23 (by decide) (fun c636 => ?_) (fun c636 => ?_)
  · replace hf := (if_pos c636).symm.trans hf
    refine g_iconst (pc := 1348) (1 : Int32) d_QuotaLawsLaw_law_1348 (by decide) ?_
    obtain ⟨rfl, rfl⟩ := ret2 hf
    exact g_zret (pc := 1349) rfl rfl d_QuotaLawsLaw_law_1349
  · replace hf := (if_neg c636).symm.trans hf
    refine g_aload_n (pc := 26) 0 d_QuotaLawsLaw_law_26 rfl rfl ?_
    refine g_iload_n (pc := 27) 3 d_QuotaLawsLaw_law_27 rfl rfl ?_
    obtain ⟨x19, e20, hf⟩ := bd1_e hf
    refine g_sld (pc := 28) d_QuotaLawsLaw_law_28 e20 ?_
    refine g_bipush (pc := 29) (63 : Int32) d_QuotaLawsLaw_law_29 (by decide) ?_
    refine g_iand (pc := 31) d_QuotaLawsLaw_law_31 ?_
    by_cases c21 : (x19 &&& (63 : Int32)) = (0 : Int32)
    · replace hf := (if_pos c21).symm.trans hf
      refine g_tabIn (pc := 32) 200 (0 : Int32) d_QuotaLawsLaw_law_32 c21 (by decide) (by decide) rfl (by decide) ?_
      refine g_aload_n (pc := 200) 1 d_QuotaLawsLaw_law_200 rfl rfl ?_
      refine g_aload_n (pc := 201) 0 d_QuotaLawsLaw_law_201 rfl rfl ?_
      refine g_iload_n (pc := 202) 3 d_QuotaLawsLaw_law_202 rfl rfl ?_
      refine g_iconst (pc := 203) (1 : Int32) d_QuotaLawsLaw_law_203 (by decide) ?_
      refine g_iadd (pc := 204) d_QuotaLawsLaw_law_204 ?_
      obtain ⟨x22, e23, hf⟩ := bd1_e hf
      refine g_sld (pc := 205) d_QuotaLawsLaw_law_205 e23 ?_
      obtain ⟨u25, e24, hf⟩ := bd1_e hf
      obtain ⟨x28, h26, e27, hf⟩ := bd2_e hf
      refine g_callV (pc := 206) (ci := 0) [.int x22] (site_of si_Q_feed (by decide) (by decide)) wd_327 wd_328 wd_329 d_QuotaLawsLaw_law_206 rfl e24 (Nat.le_of_ble_eq_true rfl) (fun z => absurd z (by decide)) (fun z => absurd z (by decide)) (fun z => absurd z (by decide)) (c_Q_feed e27) rfl ?_
      refine g_st [.int x28] rfl ?_
      refine g_pop (pc := 209) d_QuotaLawsLaw_law_209 rfl ?_
      refine g_aload_n (pc := 210) 2 d_QuotaLawsLaw_law_210 rfl rfl ?_
      refine g_aload_n (pc := 211) 0 d_QuotaLawsLaw_law_211 rfl rfl ?_
      refine g_iload_n (pc := 212) 3 d_QuotaLawsLaw_law_212 rfl rfl ?_
      refine g_iconst (pc := 213) (1 : Int32) d_QuotaLawsLaw_law_213 (by decide) ?_
      refine g_iadd (pc := 214) d_QuotaLawsLaw_law_214 ?_
      obtain ⟨x29, e30, hf⟩ := bd1_e hf
      refine g_sld (pc := 215) d_QuotaLawsLaw_law_215 e30 ?_
      obtain ⟨u32, e31, hf⟩ := bd1_e hf
      obtain ⟨x35, h33, e34, hf⟩ := bd2_e hf
      refine g_callV (pc := 216) (ci := 8) [.int x29] (site_of si_M_feed (by decide) (by decide)) wd_1056 wd_1057 wd_1058 d_QuotaLawsLaw_law_216 rfl e31 (Nat.le_of_ble_eq_true rfl) (fun z => absurd z (by decide)) (fun z => absurd z (by decide)) (fun z => absurd z (by decide)) (c_M_feed e34) rfl ?_
      refine g_st [.int x35] rfl ?_
      refine g_pop (pc := 219) d_QuotaLawsLaw_law_219 rfl ?_
      refine g_goto (pc := 220) 1342 d_QuotaLawsLaw_law_220 (by decide) ?_
      refine g_lv [0, 1, 2, 3] rfl ?_
      exact t_QuotaLawsLaw_law_1342 rec18 hrec18 _ _ _ _ _ _  hf
    replace hf := (if_neg c21).symm.trans hf
    by_cases c36 : (x19 &&& (63 : Int32)) = (1 : Int32)
    · replace hf := (if_pos c36).symm.trans hf
      refine g_tabIn (pc := 32) 223 (1 : Int32) d_QuotaLawsLaw_law_32 c36 (by decide) (by decide) rfl (by decide) ?_
      refine g_aload_n (pc := 223) 1 d_QuotaLawsLaw_law_223 rfl rfl ?_
      refine g_aload_n (pc := 224) 0 d_QuotaLawsLaw_law_224 rfl rfl ?_
      refine g_iload_n (pc := 225) 3 d_QuotaLawsLaw_law_225 rfl rfl ?_
      refine g_iconst (pc := 226) (1 : Int32) d_QuotaLawsLaw_law_226 (by decide) ?_
      refine g_iadd (pc := 227) d_QuotaLawsLaw_law_227 ?_
      obtain ⟨x37, e38, hf⟩ := bd1_e hf
      refine g_sld (pc := 228) d_QuotaLawsLaw_law_228 e38 ?_
      obtain ⟨u40, e39, hf⟩ := bd1_e hf
      obtain ⟨x43, h41, e42, hf⟩ := bd2_e hf
      refine g_callV (pc := 229) (ci := 0) [.int x37] (site_of si_Q_end (by decide) (by decide)) wd_338 wd_339 wd_340 d_QuotaLawsLaw_law_229 rfl e39 (Nat.le_of_ble_eq_true rfl) (fun z => absurd z (by decide)) (fun z => absurd z (by decide)) (fun z => absurd z (by decide)) (c_Q_end e42) rfl ?_
      refine g_st [.int x43] rfl ?_
      refine g_pop (pc := 232) d_QuotaLawsLaw_law_232 rfl ?_
      refine g_aload_n (pc := 233) 2 d_QuotaLawsLaw_law_233 rfl rfl ?_
      refine g_aload_n (pc := 234) 0 d_QuotaLawsLaw_law_234 rfl rfl ?_
      refine g_iload_n (pc := 235) 3 d_QuotaLawsLaw_law_235 rfl rfl ?_
      refine g_iconst (pc := 236) (1 : Int32) d_QuotaLawsLaw_law_236 (by decide) ?_
      refine g_iadd (pc := 237) d_QuotaLawsLaw_law_237 ?_
      obtain ⟨x44, e45, hf⟩ := bd1_e hf
      refine g_sld (pc := 238) d_QuotaLawsLaw_law_238 e45 ?_
      obtain ⟨u47, e46, hf⟩ := bd1_e hf
      obtain ⟨x50, h48, e49, hf⟩ := bd2_e hf
      refine g_callV (pc := 239) (ci := 8) [.int x44] (site_of si_M_end (by decide) (by decide)) wd_1064 wd_1065 wd_1066 d_QuotaLawsLaw_law_239 rfl e46 (Nat.le_of_ble_eq_true rfl) (fun z => absurd z (by decide)) (fun z => absurd z (by decide)) (fun z => absurd z (by decide)) (c_M_end e49) rfl ?_
      refine g_st [.int x50] rfl ?_
      refine g_pop (pc := 242) d_QuotaLawsLaw_law_242 rfl ?_
      refine g_goto (pc := 243) 1342 d_QuotaLawsLaw_law_243 (by decide) ?_
      refine g_lv [0, 1, 2, 3] rfl ?_
      exact t_QuotaLawsLaw_law_1342 rec18 hrec18 _ _ _ _ _ _  hf
    replace hf := (if_neg c36).symm.trans hf
    by_cases c51 : (x19 &&& (63 : Int32)) = (2 : Int32)
    · replace hf := (if_pos c51).symm.trans hf
      refine g_tabIn (pc := 32) 246 (2 : Int32) d_QuotaLawsLaw_law_32 c51 (by decide) (by decide) rfl (by decide) ?_
      refine g_aload_n (pc := 246) 1 d_QuotaLawsLaw_law_246 rfl rfl ?_
      obtain ⟨u53, e52, hf⟩ := bd1_e hf
      obtain ⟨x56, h54, e55, hf⟩ := bd2_e hf
      refine g_callV (pc := 247) (ci := 0) [] (site_of si_Q_text (by decide) (by decide)) wd_342 wd_343 wd_344 d_QuotaLawsLaw_law_247 rfl e52 (Nat.le_of_ble_eq_true rfl) (fun z => absurd z (by decide)) (fun z => absurd z (by decide)) (fun z => absurd z (by decide)) (c_Q_text e55) rfl ?_
      refine g_st [.int x56] rfl ?_
      refine g_pop (pc := 250) d_QuotaLawsLaw_law_250 rfl ?_
      refine g_aload_n (pc := 251) 2 d_QuotaLawsLaw_law_251 rfl rfl ?_
      obtain ⟨u58, e57, hf⟩ := bd1_e hf
      obtain ⟨x61, h59, e60, hf⟩ := bd2_e hf
      refine g_callV (pc := 252) (ci := 8) [] (site_of si_M_text (by decide) (by decide)) wd_1068 wd_1069 wd_1070 d_QuotaLawsLaw_law_252 rfl e57 (Nat.le_of_ble_eq_true rfl) (fun z => absurd z (by decide)) (fun z => absurd z (by decide)) (fun z => absurd z (by decide)) (c_M_text e60) rfl ?_
      refine g_st [.int x61] rfl ?_
      refine g_pop (pc := 255) d_QuotaLawsLaw_law_255 rfl ?_
      refine g_goto (pc := 256) 1342 d_QuotaLawsLaw_law_256 (by decide) ?_
      refine g_lv [0, 1, 2, 3] rfl ?_
      exact t_QuotaLawsLaw_law_1342 rec18 hrec18 _ _ _ _ _ _  hf
    replace hf := (if_neg c51).symm.trans hf
    by_cases c62 : (x19 &&& (63 : Int32)) = (3 : Int32)
    · replace hf := (if_pos c62).symm.trans hf
      refine g_tabIn (pc := 32) 259 (3 : Int32) d_QuotaLawsLaw_law_32 c62 (by decide) (by decide) rfl (by decide) ?_
      refine g_aload_n (pc := 259) 1 d_QuotaLawsLaw_law_259 rfl rfl ?_
      obtain ⟨u64, e63, hf⟩ := bd1_e hf
      obtain ⟨x67, h65, e66, hf⟩ := bd2_e hf
      refine g_callV (pc := 260) (ci := 0) [] (site_of si_Q_fault (by decide) (by decide)) wd_507 wd_508 wd_509 d_QuotaLawsLaw_law_260 rfl e63 (Nat.le_of_ble_eq_true rfl) (fun z => absurd z (by decide)) (fun z => absurd z (by decide)) (fun z => absurd z (by decide)) (c_Q_fault e66) rfl ?_
      refine g_st [.int x67] rfl ?_
      refine g_pop (pc := 263) d_QuotaLawsLaw_law_263 rfl ?_
      refine g_aload_n (pc := 264) 2 d_QuotaLawsLaw_law_264 rfl rfl ?_
      obtain ⟨u69, e68, hf⟩ := bd1_e hf
      obtain ⟨x72, h70, e71, hf⟩ := bd2_e hf
      refine g_callV (pc := 265) (ci := 8) [] (site_of si_M_fault (by decide) (by decide)) wd_1124 wd_1125 wd_1126 d_QuotaLawsLaw_law_265 rfl e68 (Nat.le_of_ble_eq_true rfl) (fun z => absurd z (by decide)) (fun z => absurd z (by decide)) (fun z => absurd z (by decide)) (c_M_fault e71) rfl ?_
      refine g_st [.int x72] rfl ?_
      refine g_pop (pc := 268) d_QuotaLawsLaw_law_268 rfl ?_
      refine g_goto (pc := 269) 1342 d_QuotaLawsLaw_law_269 (by decide) ?_
      refine g_lv [0, 1, 2, 3] rfl ?_
      exact t_QuotaLawsLaw_law_1342 rec18 hrec18 _ _ _ _ _ _  hf
    replace hf := (if_neg c62).symm.trans hf
    by_cases c73 : (x19 &&& (63 : Int32)) = (4 : Int32)
    · replace hf := (if_pos c73).symm.trans hf
      refine g_tabIn (pc := 32) 272 (4 : Int32) d_QuotaLawsLaw_law_32 c73 (by decide) (by decide) rfl (by decide) ?_
      refine g_aload_n (pc := 272) 1 d_QuotaLawsLaw_law_272 rfl rfl ?_
      refine g_aload_n (pc := 273) 0 d_QuotaLawsLaw_law_273 rfl rfl ?_
      refine g_iload_n (pc := 274) 3 d_QuotaLawsLaw_law_274 rfl rfl ?_
      refine g_iconst (pc := 275) (1 : Int32) d_QuotaLawsLaw_law_275 (by decide) ?_
      refine g_iadd (pc := 276) d_QuotaLawsLaw_law_276 ?_
      obtain ⟨x74, e75, hf⟩ := bd1_e hf
      refine g_sld (pc := 277) d_QuotaLawsLaw_law_277 e75 ?_
      obtain ⟨u77, e76, hf⟩ := bd1_e hf
      obtain ⟨x80, h78, e79, hf⟩ := bd2_e hf
      refine g_callV (pc := 278) (ci := 0) [.int x74] (site_of si_Q_rule (by decide) (by decide)) wd_511 wd_512 wd_513 d_QuotaLawsLaw_law_278 rfl e76 (Nat.le_of_ble_eq_true rfl) (fun z => absurd z (by decide)) (fun z => absurd z (by decide)) (fun z => absurd z (by decide)) (c_Q_rule e79) rfl ?_
      refine g_st [.int x80] rfl ?_
      refine g_pop (pc := 281) d_QuotaLawsLaw_law_281 rfl ?_
      refine g_aload_n (pc := 282) 2 d_QuotaLawsLaw_law_282 rfl rfl ?_
      refine g_aload_n (pc := 283) 0 d_QuotaLawsLaw_law_283 rfl rfl ?_
      refine g_iload_n (pc := 284) 3 d_QuotaLawsLaw_law_284 rfl rfl ?_
      refine g_iconst (pc := 285) (1 : Int32) d_QuotaLawsLaw_law_285 (by decide) ?_
      refine g_iadd (pc := 286) d_QuotaLawsLaw_law_286 ?_
      obtain ⟨x81, e82, hf⟩ := bd1_e hf
      refine g_sld (pc := 287) d_QuotaLawsLaw_law_287 e82 ?_
      obtain ⟨u84, e83, hf⟩ := bd1_e hf
      obtain ⟨x87, h85, e86, hf⟩ := bd2_e hf
      refine g_callV (pc := 288) (ci := 8) [.int x81] (site_of si_M_rule (by decide) (by decide)) wd_1128 wd_1129 wd_1130 d_QuotaLawsLaw_law_288 rfl e83 (Nat.le_of_ble_eq_true rfl) (fun z => absurd z (by decide)) (fun z => absurd z (by decide)) (fun z => absurd z (by decide)) (c_M_rule e86) rfl ?_
      refine g_st [.int x87] rfl ?_
      refine g_pop (pc := 291) d_QuotaLawsLaw_law_291 rfl ?_
      refine g_goto (pc := 292) 1342 d_QuotaLawsLaw_law_292 (by decide) ?_
      refine g_lv [0, 1, 2, 3] rfl ?_
      exact t_QuotaLawsLaw_law_1342 rec18 hrec18 _ _ _ _ _ _  hf
    replace hf := (if_neg c73).symm.trans hf
    by_cases c88 : (x19 &&& (63 : Int32)) = (5 : Int32)
    · replace hf := (if_pos c88).symm.trans hf
      refine g_tabIn (pc := 32) 295 (5 : Int32) d_QuotaLawsLaw_law_32 c88 (by decide) (by decide) rfl (by decide) ?_
      refine g_aload_n (pc := 295) 1 d_QuotaLawsLaw_law_295 rfl rfl ?_
      refine g_aload_n (pc := 296) 0 d_QuotaLawsLaw_law_296 rfl rfl ?_
      refine g_iload_n (pc := 297) 3 d_QuotaLawsLaw_law_297 rfl rfl ?_
      refine g_iconst (pc := 298) (1 : Int32) d_QuotaLawsLaw_law_298 (by decide) ?_
      refine g_iadd (pc := 299) d_QuotaLawsLaw_law_299 ?_
      obtain ⟨x89, e90, hf⟩ := bd1_e hf
      refine g_sld (pc := 300) d_QuotaLawsLaw_law_300 e90 ?_
      refine g_aload_n (pc := 301) 0 d_QuotaLawsLaw_law_301 rfl rfl ?_
      refine g_iload_n (pc := 302) 3 d_QuotaLawsLaw_law_302 rfl rfl ?_
      refine g_iconst (pc := 303) (2 : Int32) d_QuotaLawsLaw_law_303 (by decide) ?_
      refine g_iadd (pc := 304) d_QuotaLawsLaw_law_304 ?_
      obtain ⟨x91, e92, hf⟩ := bd1_e hf
      refine g_sld (pc := 305) d_QuotaLawsLaw_law_305 e92 ?_
      obtain ⟨u94, e93, hf⟩ := bd1_e hf
      obtain ⟨x97, h95, e96, hf⟩ := bd2_e hf
      refine g_callV (pc := 306) (ci := 0) [.int x89, .int x91] (site_of si_Q_law (by decide) (by decide)) wd_515 wd_516 wd_517 d_QuotaLawsLaw_law_306 rfl e93 (Nat.le_of_ble_eq_true rfl) (fun z => absurd z (by decide)) (fun z => absurd z (by decide)) (fun z => absurd z (by decide)) (c_Q_law e96) rfl ?_
      refine g_st [.int x97] rfl ?_
      refine g_pop (pc := 309) d_QuotaLawsLaw_law_309 rfl ?_
      refine g_aload_n (pc := 310) 2 d_QuotaLawsLaw_law_310 rfl rfl ?_
      refine g_aload_n (pc := 311) 0 d_QuotaLawsLaw_law_311 rfl rfl ?_
      refine g_iload_n (pc := 312) 3 d_QuotaLawsLaw_law_312 rfl rfl ?_
      refine g_iconst (pc := 313) (1 : Int32) d_QuotaLawsLaw_law_313 (by decide) ?_
      refine g_iadd (pc := 314) d_QuotaLawsLaw_law_314 ?_
      obtain ⟨x98, e99, hf⟩ := bd1_e hf
      refine g_sld (pc := 315) d_QuotaLawsLaw_law_315 e99 ?_
      refine g_aload_n (pc := 316) 0 d_QuotaLawsLaw_law_316 rfl rfl ?_
      refine g_iload_n (pc := 317) 3 d_QuotaLawsLaw_law_317 rfl rfl ?_
      refine g_iconst (pc := 318) (2 : Int32) d_QuotaLawsLaw_law_318 (by decide) ?_
      refine g_iadd (pc := 319) d_QuotaLawsLaw_law_319 ?_
      obtain ⟨x100, e101, hf⟩ := bd1_e hf
      refine g_sld (pc := 320) d_QuotaLawsLaw_law_320 e101 ?_
      obtain ⟨u103, e102, hf⟩ := bd1_e hf
      obtain ⟨x106, h104, e105, hf⟩ := bd2_e hf
      refine g_callV (pc := 321) (ci := 8) [.int x98, .int x100] (site_of si_M_law (by decide) (by decide)) wd_1132 wd_1133 wd_1134 d_QuotaLawsLaw_law_321 rfl e102 (Nat.le_of_ble_eq_true rfl) (fun z => absurd z (by decide)) (fun z => absurd z (by decide)) (fun z => absurd z (by decide)) (c_M_law e105) rfl ?_
      refine g_st [.int x106] rfl ?_
      refine g_pop (pc := 324) d_QuotaLawsLaw_law_324 rfl ?_
      refine g_goto (pc := 325) 1342 d_QuotaLawsLaw_law_325 (by decide) ?_
      refine g_lv [0, 1, 2, 3] rfl ?_
      exact t_QuotaLawsLaw_law_1342 rec18 hrec18 _ _ _ _ _ _  hf
    replace hf := (if_neg c88).symm.trans hf
    by_cases c107 : (x19 &&& (63 : Int32)) = (6 : Int32)
    · replace hf := (if_pos c107).symm.trans hf
      refine g_tabIn (pc := 32) 328 (6 : Int32) d_QuotaLawsLaw_law_32 c107 (by decide) (by decide) rfl (by decide) ?_
      refine g_aload_n (pc := 328) 1 d_QuotaLawsLaw_law_328 rfl rfl ?_
      refine g_aload_n (pc := 329) 0 d_QuotaLawsLaw_law_329 rfl rfl ?_
      refine g_iload_n (pc := 330) 3 d_QuotaLawsLaw_law_330 rfl rfl ?_
      refine g_iconst (pc := 331) (1 : Int32) d_QuotaLawsLaw_law_331 (by decide) ?_
      refine g_iadd (pc := 332) d_QuotaLawsLaw_law_332 ?_
      obtain ⟨x108, e109, hf⟩ := bd1_e hf
      refine g_sld (pc := 333) d_QuotaLawsLaw_law_333 e109 ?_
      refine g_aload_n (pc := 334) 0 d_QuotaLawsLaw_law_334 rfl rfl ?_
      refine g_iload_n (pc := 335) 3 d_QuotaLawsLaw_law_335 rfl rfl ?_
      refine g_iconst (pc := 336) (2 : Int32) d_QuotaLawsLaw_law_336 (by decide) ?_
      refine g_iadd (pc := 337) d_QuotaLawsLaw_law_337 ?_
      obtain ⟨x110, e111, hf⟩ := bd1_e hf
      refine g_sld (pc := 338) d_QuotaLawsLaw_law_338 e111 ?_
      obtain ⟨u113, e112, hf⟩ := bd1_e hf
      obtain ⟨x116, h114, e115, hf⟩ := bd2_e hf
      refine g_callV (pc := 339) (ci := 0) [.int x108, .int x110] (site_of si_Q_one (by decide) (by decide)) wd_537 wd_538 wd_539 d_QuotaLawsLaw_law_339 rfl e112 (Nat.le_of_ble_eq_true rfl) (fun z => absurd z (by decide)) (fun z => absurd z (by decide)) (fun z => absurd z (by decide)) (c_Q_one e115) rfl ?_
      refine g_st [.int x116] rfl ?_
      refine g_pop (pc := 342) d_QuotaLawsLaw_law_342 rfl ?_
      refine g_aload_n (pc := 343) 2 d_QuotaLawsLaw_law_343 rfl rfl ?_
      refine g_aload_n (pc := 344) 0 d_QuotaLawsLaw_law_344 rfl rfl ?_
      refine g_iload_n (pc := 345) 3 d_QuotaLawsLaw_law_345 rfl rfl ?_
      refine g_iconst (pc := 346) (1 : Int32) d_QuotaLawsLaw_law_346 (by decide) ?_
      refine g_iadd (pc := 347) d_QuotaLawsLaw_law_347 ?_
      obtain ⟨x117, e118, hf⟩ := bd1_e hf
      refine g_sld (pc := 348) d_QuotaLawsLaw_law_348 e118 ?_
      refine g_aload_n (pc := 349) 0 d_QuotaLawsLaw_law_349 rfl rfl ?_
      refine g_iload_n (pc := 350) 3 d_QuotaLawsLaw_law_350 rfl rfl ?_
      refine g_iconst (pc := 351) (2 : Int32) d_QuotaLawsLaw_law_351 (by decide) ?_
      refine g_iadd (pc := 352) d_QuotaLawsLaw_law_352 ?_
      obtain ⟨x119, e120, hf⟩ := bd1_e hf
      refine g_sld (pc := 353) d_QuotaLawsLaw_law_353 e120 ?_
      obtain ⟨u122, e121, hf⟩ := bd1_e hf
      obtain ⟨x125, h123, e124, hf⟩ := bd2_e hf
      refine g_callV (pc := 354) (ci := 8) [.int x117, .int x119] (site_of si_M_one (by decide) (by decide)) wd_1156 wd_1157 wd_1158 d_QuotaLawsLaw_law_354 rfl e121 (Nat.le_of_ble_eq_true rfl) (fun z => absurd z (by decide)) (fun z => absurd z (by decide)) (fun z => absurd z (by decide)) (c_M_one e124) rfl ?_
      refine g_st [.int x125] rfl ?_
      refine g_pop (pc := 357) d_QuotaLawsLaw_law_357 rfl ?_
      refine g_goto (pc := 358) 1342 d_QuotaLawsLaw_law_358 (by decide) ?_
      refine g_lv [0, 1, 2, 3] rfl ?_
      exact t_QuotaLawsLaw_law_1342 rec18 hrec18 _ _ _ _ _ _  hf
    replace hf := (if_neg c107).symm.trans hf
    by_cases c126 : (x19 &&& (63 : Int32)) = (7 : Int32)
    · replace hf := (if_pos c126).symm.trans hf
      refine g_tabIn (pc := 32) 361 (7 : Int32) d_QuotaLawsLaw_law_32 c126 (by decide) (by decide) rfl (by decide) ?_
      refine g_aload_n (pc := 361) 1 d_QuotaLawsLaw_law_361 rfl rfl ?_
      refine g_aload_n (pc := 362) 0 d_QuotaLawsLaw_law_362 rfl rfl ?_
      refine g_iload_n (pc := 363) 3 d_QuotaLawsLaw_law_363 rfl rfl ?_
      refine g_iconst (pc := 364) (1 : Int32) d_QuotaLawsLaw_law_364 (by decide) ?_
      refine g_iadd (pc := 365) d_QuotaLawsLaw_law_365 ?_
      obtain ⟨x127, e128, hf⟩ := bd1_e hf
      refine g_sld (pc := 366) d_QuotaLawsLaw_law_366 e128 ?_
      refine g_aload_n (pc := 367) 0 d_QuotaLawsLaw_law_367 rfl rfl ?_
      refine g_iload_n (pc := 368) 3 d_QuotaLawsLaw_law_368 rfl rfl ?_
      refine g_iconst (pc := 369) (2 : Int32) d_QuotaLawsLaw_law_369 (by decide) ?_
      refine g_iadd (pc := 370) d_QuotaLawsLaw_law_370 ?_
      obtain ⟨x129, e130, hf⟩ := bd1_e hf
      refine g_sld (pc := 371) d_QuotaLawsLaw_law_371 e130 ?_
      obtain ⟨u132, e131, hf⟩ := bd1_e hf
      obtain ⟨x135, h133, e134, hf⟩ := bd2_e hf
      refine g_callV (pc := 372) (ci := 0) [.int x127, .int x129] (site_of si_Q_broken (by decide) (by decide)) wd_566 wd_567 wd_568 d_QuotaLawsLaw_law_372 rfl e131 (Nat.le_of_ble_eq_true rfl) (fun z => absurd z (by decide)) (fun z => absurd z (by decide)) (fun z => absurd z (by decide)) (c_Q_broken e134) rfl ?_
      refine g_st [.int x135] rfl ?_
      refine g_pop (pc := 375) d_QuotaLawsLaw_law_375 rfl ?_
      refine g_aload_n (pc := 376) 2 d_QuotaLawsLaw_law_376 rfl rfl ?_
      refine g_aload_n (pc := 377) 0 d_QuotaLawsLaw_law_377 rfl rfl ?_
      refine g_iload_n (pc := 378) 3 d_QuotaLawsLaw_law_378 rfl rfl ?_
      refine g_iconst (pc := 379) (1 : Int32) d_QuotaLawsLaw_law_379 (by decide) ?_
      refine g_iadd (pc := 380) d_QuotaLawsLaw_law_380 ?_
      obtain ⟨x136, e137, hf⟩ := bd1_e hf
      refine g_sld (pc := 381) d_QuotaLawsLaw_law_381 e137 ?_
      refine g_aload_n (pc := 382) 0 d_QuotaLawsLaw_law_382 rfl rfl ?_
      refine g_iload_n (pc := 383) 3 d_QuotaLawsLaw_law_383 rfl rfl ?_
      refine g_iconst (pc := 384) (2 : Int32) d_QuotaLawsLaw_law_384 (by decide) ?_
      refine g_iadd (pc := 385) d_QuotaLawsLaw_law_385 ?_
      obtain ⟨x138, e139, hf⟩ := bd1_e hf
      refine g_sld (pc := 386) d_QuotaLawsLaw_law_386 e139 ?_
      obtain ⟨u141, e140, hf⟩ := bd1_e hf
      obtain ⟨x144, h142, e143, hf⟩ := bd2_e hf
      refine g_callV (pc := 387) (ci := 8) [.int x136, .int x138] (site_of si_M_broken (by decide) (by decide)) wd_1183 wd_1184 wd_1185 d_QuotaLawsLaw_law_387 rfl e140 (Nat.le_of_ble_eq_true rfl) (fun z => absurd z (by decide)) (fun z => absurd z (by decide)) (fun z => absurd z (by decide)) (c_M_broken e143) rfl ?_
      refine g_st [.int x144] rfl ?_
      refine g_pop (pc := 390) d_QuotaLawsLaw_law_390 rfl ?_
      refine g_goto (pc := 391) 1342 d_QuotaLawsLaw_law_391 (by decide) ?_
      refine g_lv [0, 1, 2, 3] rfl ?_
      exact t_QuotaLawsLaw_law_1342 rec18 hrec18 _ _ _ _ _ _  hf
    replace hf := (if_neg c126).symm.trans hf
    by_cases c145 : (x19 &&& (63 : Int32)) = (8 : Int32)
    · replace hf := (if_pos c145).symm.trans hf
      refine g_tabIn (pc := 32) 394 (8 : Int32) d_QuotaLawsLaw_law_32 c145 (by decide) (by decide) rfl (by decide) ?_
      refine g_aload_n (pc := 394) 1 d_QuotaLawsLaw_law_394 rfl rfl ?_
      refine g_aload_n (pc := 395) 0 d_QuotaLawsLaw_law_395 rfl rfl ?_
      refine g_iload_n (pc := 396) 3 d_QuotaLawsLaw_law_396 rfl rfl ?_
      refine g_iconst (pc := 397) (1 : Int32) d_QuotaLawsLaw_law_397 (by decide) ?_
      refine g_iadd (pc := 398) d_QuotaLawsLaw_law_398 ?_
      obtain ⟨x146, e147, hf⟩ := bd1_e hf
      refine g_sld (pc := 399) d_QuotaLawsLaw_law_399 e147 ?_
      refine g_aload_n (pc := 400) 0 d_QuotaLawsLaw_law_400 rfl rfl ?_
      refine g_iload_n (pc := 401) 3 d_QuotaLawsLaw_law_401 rfl rfl ?_
      refine g_iconst (pc := 402) (2 : Int32) d_QuotaLawsLaw_law_402 (by decide) ?_
      refine g_iadd (pc := 403) d_QuotaLawsLaw_law_403 ?_
      obtain ⟨x148, e149, hf⟩ := bd1_e hf
      refine g_sld (pc := 404) d_QuotaLawsLaw_law_404 e149 ?_
      obtain ⟨u151, e150, hf⟩ := bd1_e hf
      obtain ⟨x154, h152, e153, hf⟩ := bd2_e hf
      refine g_callV (pc := 405) (ci := 0) [.int x146, .int x148] (site_of si_Q_quota (by decide) (by decide)) wd_576 wd_577 wd_578 d_QuotaLawsLaw_law_405 rfl e150 (Nat.le_of_ble_eq_true rfl) (fun z => absurd z (by decide)) (fun z => absurd z (by decide)) (fun z => absurd z (by decide)) (c_Q_quota e153) rfl ?_
      refine g_st [.int x154] rfl ?_
      refine g_pop (pc := 408) d_QuotaLawsLaw_law_408 rfl ?_
      refine g_aload_n (pc := 409) 2 d_QuotaLawsLaw_law_409 rfl rfl ?_
      refine g_aload_n (pc := 410) 0 d_QuotaLawsLaw_law_410 rfl rfl ?_
      refine g_iload_n (pc := 411) 3 d_QuotaLawsLaw_law_411 rfl rfl ?_
      refine g_iconst (pc := 412) (1 : Int32) d_QuotaLawsLaw_law_412 (by decide) ?_
      refine g_iadd (pc := 413) d_QuotaLawsLaw_law_413 ?_
      obtain ⟨x155, e156, hf⟩ := bd1_e hf
      refine g_sld (pc := 414) d_QuotaLawsLaw_law_414 e156 ?_
      refine g_aload_n (pc := 415) 0 d_QuotaLawsLaw_law_415 rfl rfl ?_
      refine g_iload_n (pc := 416) 3 d_QuotaLawsLaw_law_416 rfl rfl ?_
      refine g_iconst (pc := 417) (2 : Int32) d_QuotaLawsLaw_law_417 (by decide) ?_
      refine g_iadd (pc := 418) d_QuotaLawsLaw_law_418 ?_
      obtain ⟨x157, e158, hf⟩ := bd1_e hf
      refine g_sld (pc := 419) d_QuotaLawsLaw_law_419 e158 ?_
      obtain ⟨u160, e159, hf⟩ := bd1_e hf
      obtain ⟨x163, h161, e162, hf⟩ := bd2_e hf
      refine g_callV (pc := 420) (ci := 8) [.int x155, .int x157] (site_of si_M_quota (by decide) (by decide)) wd_1187 wd_1188 wd_1189 d_QuotaLawsLaw_law_420 rfl e159 (Nat.le_of_ble_eq_true rfl) (fun z => absurd z (by decide)) (fun z => absurd z (by decide)) (fun z => absurd z (by decide)) (c_M_quota e162) rfl ?_
      refine g_st [.int x163] rfl ?_
      refine g_pop (pc := 423) d_QuotaLawsLaw_law_423 rfl ?_
      refine g_goto (pc := 424) 1342 d_QuotaLawsLaw_law_424 (by decide) ?_
      refine g_lv [0, 1, 2, 3] rfl ?_
      exact t_QuotaLawsLaw_law_1342 rec18 hrec18 _ _ _ _ _ _  hf
    replace hf := (if_neg c145).symm.trans hf
    by_cases c164 : (x19 &&& (63 : Int32)) = (9 : Int32)
    · replace hf := (if_pos c164).symm.trans hf
      refine g_tabIn (pc := 32) 427 (9 : Int32) d_QuotaLawsLaw_law_32 c164 (by decide) (by decide) rfl (by decide) ?_
      refine g_aload_n (pc := 427) 1 d_QuotaLawsLaw_law_427 rfl rfl ?_
      refine g_aload_n (pc := 428) 0 d_QuotaLawsLaw_law_428 rfl rfl ?_
      refine g_iload_n (pc := 429) 3 d_QuotaLawsLaw_law_429 rfl rfl ?_
      refine g_iconst (pc := 430) (1 : Int32) d_QuotaLawsLaw_law_430 (by decide) ?_
      refine g_iadd (pc := 431) d_QuotaLawsLaw_law_431 ?_
      obtain ⟨x165, e166, hf⟩ := bd1_e hf
      refine g_sld (pc := 432) d_QuotaLawsLaw_law_432 e166 ?_
      refine g_aload_n (pc := 433) 0 d_QuotaLawsLaw_law_433 rfl rfl ?_
      refine g_iload_n (pc := 434) 3 d_QuotaLawsLaw_law_434 rfl rfl ?_
      refine g_iconst (pc := 435) (2 : Int32) d_QuotaLawsLaw_law_435 (by decide) ?_
      refine g_iadd (pc := 436) d_QuotaLawsLaw_law_436 ?_
      obtain ⟨x167, e168, hf⟩ := bd1_e hf
      refine g_sld (pc := 437) d_QuotaLawsLaw_law_437 e168 ?_
      obtain ⟨u170, e169, hf⟩ := bd1_e hf
      obtain ⟨x173, h171, e172, hf⟩ := bd2_e hf
      refine g_callV (pc := 438) (ci := 0) [.int x165, .int x167] (site_of si_Q_carry (by decide) (by decide)) wd_580 wd_581 wd_582 d_QuotaLawsLaw_law_438 rfl e169 (Nat.le_of_ble_eq_true rfl) (fun z => absurd z (by decide)) (fun z => absurd z (by decide)) (fun z => absurd z (by decide)) (c_Q_carry e172) rfl ?_
      refine g_st [.int x173] rfl ?_
      refine g_pop (pc := 441) d_QuotaLawsLaw_law_441 rfl ?_
      refine g_aload_n (pc := 442) 2 d_QuotaLawsLaw_law_442 rfl rfl ?_
      refine g_aload_n (pc := 443) 0 d_QuotaLawsLaw_law_443 rfl rfl ?_
      refine g_iload_n (pc := 444) 3 d_QuotaLawsLaw_law_444 rfl rfl ?_
      refine g_iconst (pc := 445) (1 : Int32) d_QuotaLawsLaw_law_445 (by decide) ?_
      refine g_iadd (pc := 446) d_QuotaLawsLaw_law_446 ?_
      obtain ⟨x174, e175, hf⟩ := bd1_e hf
      refine g_sld (pc := 447) d_QuotaLawsLaw_law_447 e175 ?_
      refine g_aload_n (pc := 448) 0 d_QuotaLawsLaw_law_448 rfl rfl ?_
      refine g_iload_n (pc := 449) 3 d_QuotaLawsLaw_law_449 rfl rfl ?_
      refine g_iconst (pc := 450) (2 : Int32) d_QuotaLawsLaw_law_450 (by decide) ?_
      refine g_iadd (pc := 451) d_QuotaLawsLaw_law_451 ?_
      obtain ⟨x176, e177, hf⟩ := bd1_e hf
      refine g_sld (pc := 452) d_QuotaLawsLaw_law_452 e177 ?_
      obtain ⟨u179, e178, hf⟩ := bd1_e hf
      obtain ⟨x182, h180, e181, hf⟩ := bd2_e hf
      refine g_callV (pc := 453) (ci := 8) [.int x174, .int x176] (site_of si_M_carry (by decide) (by decide)) wd_1196 wd_1197 wd_1198 d_QuotaLawsLaw_law_453 rfl e178 (Nat.le_of_ble_eq_true rfl) (fun z => absurd z (by decide)) (fun z => absurd z (by decide)) (fun z => absurd z (by decide)) (c_M_carry e181) rfl ?_
      refine g_st [.int x182] rfl ?_
      refine g_pop (pc := 456) d_QuotaLawsLaw_law_456 rfl ?_
      refine g_goto (pc := 457) 1342 d_QuotaLawsLaw_law_457 (by decide) ?_
      refine g_lv [0, 1, 2, 3] rfl ?_
      exact t_QuotaLawsLaw_law_1342 rec18 hrec18 _ _ _ _ _ _  hf
    replace hf := (if_neg c164).symm.trans hf
    by_cases c183 : (x19 &&& (63 : Int32)) = (10 : Int32)
    · replace hf := (if_pos c183).symm.trans hf
      refine g_tabIn (pc := 32) 460 (10 : Int32) d_QuotaLawsLaw_law_32 c183 (by decide) (by decide) rfl (by decide) ?_
      refine g_aload_n (pc := 460) 1 d_QuotaLawsLaw_law_460 rfl rfl ?_
      refine g_aload_n (pc := 461) 0 d_QuotaLawsLaw_law_461 rfl rfl ?_
      refine g_iload_n (pc := 462) 3 d_QuotaLawsLaw_law_462 rfl rfl ?_
      refine g_iconst (pc := 463) (1 : Int32) d_QuotaLawsLaw_law_463 (by decide) ?_
      refine g_iadd (pc := 464) d_QuotaLawsLaw_law_464 ?_
      obtain ⟨x184, e185, hf⟩ := bd1_e hf
      refine g_sld (pc := 465) d_QuotaLawsLaw_law_465 e185 ?_
      refine g_aload_n (pc := 466) 0 d_QuotaLawsLaw_law_466 rfl rfl ?_
      refine g_iload_n (pc := 467) 3 d_QuotaLawsLaw_law_467 rfl rfl ?_
      refine g_iconst (pc := 468) (2 : Int32) d_QuotaLawsLaw_law_468 (by decide) ?_
      refine g_iadd (pc := 469) d_QuotaLawsLaw_law_469 ?_
      obtain ⟨x186, e187, hf⟩ := bd1_e hf
      refine g_sld (pc := 470) d_QuotaLawsLaw_law_470 e187 ?_
      refine g_ifeq (pc := 471) 478 d_QuotaLawsLaw_law_471 (by decide) (fun c188 => ?_) (fun c188 => ?_)
      · replace hf := (if_pos c188).symm.trans hf
        refine g_iconst (pc := 478) (0 : Int32) d_QuotaLawsLaw_law_478 (by decide) ?_
        refine g_lv [0, 1, 2, 3] rfl ?_
        exact t_QuotaLawsLaw_law_479 rec18 hrec18 _ _ _ _ _ _ _ _ _  hf
      · replace hf := (if_neg c188).symm.trans hf
        refine g_iconst (pc := 474) (1 : Int32) d_QuotaLawsLaw_law_474 (by decide) ?_
        refine g_goto (pc := 475) 479 d_QuotaLawsLaw_law_475 (by decide) ?_
        refine g_lv [0, 1, 2, 3] rfl ?_
        exact t_QuotaLawsLaw_law_479 rec18 hrec18 _ _ _ _ _ _ _ _ _  hf
    replace hf := (if_neg c183).symm.trans hf
    by_cases c189 : (x19 &&& (63 : Int32)) = (11 : Int32)
    · replace hf := (if_pos c189).symm.trans hf
      refine g_tabIn (pc := 32) 509 (11 : Int32) d_QuotaLawsLaw_law_32 c189 (by decide) (by decide) rfl (by decide) ?_
      refine g_aload_n (pc := 509) 1 d_QuotaLawsLaw_law_509 rfl rfl ?_
      refine g_aload_n (pc := 510) 0 d_QuotaLawsLaw_law_510 rfl rfl ?_
      refine g_iload_n (pc := 511) 3 d_QuotaLawsLaw_law_511 rfl rfl ?_
      refine g_iconst (pc := 512) (1 : Int32) d_QuotaLawsLaw_law_512 (by decide) ?_
      refine g_iadd (pc := 513) d_QuotaLawsLaw_law_513 ?_
      obtain ⟨x190, e191, hf⟩ := bd1_e hf
      refine g_sld (pc := 514) d_QuotaLawsLaw_law_514 e191 ?_
      refine g_aload_n (pc := 515) 0 d_QuotaLawsLaw_law_515 rfl rfl ?_
      refine g_iload_n (pc := 516) 3 d_QuotaLawsLaw_law_516 rfl rfl ?_
      refine g_iconst (pc := 517) (2 : Int32) d_QuotaLawsLaw_law_517 (by decide) ?_
      refine g_iadd (pc := 518) d_QuotaLawsLaw_law_518 ?_
      obtain ⟨x192, e193, hf⟩ := bd1_e hf
      refine g_sld (pc := 519) d_QuotaLawsLaw_law_519 e193 ?_
      obtain ⟨u195, e194, hf⟩ := bd1_e hf
      obtain ⟨x198, h196, e197, hf⟩ := bd2_e hf
      refine g_callV (pc := 520) (ci := 0) [.int x190, .int x192] (site_of si_Q_time (by decide) (by decide)) wd_594 wd_595 wd_596 d_QuotaLawsLaw_law_520 rfl e194 (Nat.le_of_ble_eq_true rfl) (fun z => absurd z (by decide)) (fun z => absurd z (by decide)) (fun z => absurd z (by decide)) (c_Q_time e197) rfl ?_
      refine g_st [.int x198] rfl ?_
      refine g_pop (pc := 523) d_QuotaLawsLaw_law_523 rfl ?_
      refine g_aload_n (pc := 524) 2 d_QuotaLawsLaw_law_524 rfl rfl ?_
      refine g_aload_n (pc := 525) 0 d_QuotaLawsLaw_law_525 rfl rfl ?_
      refine g_iload_n (pc := 526) 3 d_QuotaLawsLaw_law_526 rfl rfl ?_
      refine g_iconst (pc := 527) (1 : Int32) d_QuotaLawsLaw_law_527 (by decide) ?_
      refine g_iadd (pc := 528) d_QuotaLawsLaw_law_528 ?_
      obtain ⟨x199, e200, hf⟩ := bd1_e hf
      refine g_sld (pc := 529) d_QuotaLawsLaw_law_529 e200 ?_
      refine g_aload_n (pc := 530) 0 d_QuotaLawsLaw_law_530 rfl rfl ?_
      refine g_iload_n (pc := 531) 3 d_QuotaLawsLaw_law_531 rfl rfl ?_
      refine g_iconst (pc := 532) (2 : Int32) d_QuotaLawsLaw_law_532 (by decide) ?_
      refine g_iadd (pc := 533) d_QuotaLawsLaw_law_533 ?_
      obtain ⟨x201, e202, hf⟩ := bd1_e hf
      refine g_sld (pc := 534) d_QuotaLawsLaw_law_534 e202 ?_
      obtain ⟨u204, e203, hf⟩ := bd1_e hf
      obtain ⟨x207, h205, e206, hf⟩ := bd2_e hf
      refine g_callV (pc := 535) (ci := 8) [.int x199, .int x201] (site_of si_M_time (by decide) (by decide)) wd_1208 wd_1209 wd_1210 d_QuotaLawsLaw_law_535 rfl e203 (Nat.le_of_ble_eq_true rfl) (fun z => absurd z (by decide)) (fun z => absurd z (by decide)) (fun z => absurd z (by decide)) (c_M_time e206) rfl ?_
      refine g_st [.int x207] rfl ?_
      refine g_pop (pc := 538) d_QuotaLawsLaw_law_538 rfl ?_
      refine g_goto (pc := 539) 1342 d_QuotaLawsLaw_law_539 (by decide) ?_
      refine g_lv [0, 1, 2, 3] rfl ?_
      exact t_QuotaLawsLaw_law_1342 rec18 hrec18 _ _ _ _ _ _  hf
    replace hf := (if_neg c189).symm.trans hf
    by_cases c208 : (x19 &&& (63 : Int32)) = (12 : Int32)
    · replace hf := (if_pos c208).symm.trans hf
      refine g_tabIn (pc := 32) 542 (12 : Int32) d_QuotaLawsLaw_law_32 c208 (by decide) (by decide) rfl (by decide) ?_
      refine g_aload_n (pc := 542) 1 d_QuotaLawsLaw_law_542 rfl rfl ?_
      refine g_aload_n (pc := 543) 0 d_QuotaLawsLaw_law_543 rfl rfl ?_
      refine g_iload_n (pc := 544) 3 d_QuotaLawsLaw_law_544 rfl rfl ?_
      refine g_iconst (pc := 545) (1 : Int32) d_QuotaLawsLaw_law_545 (by decide) ?_
      refine g_iadd (pc := 546) d_QuotaLawsLaw_law_546 ?_
      obtain ⟨x209, e210, hf⟩ := bd1_e hf
      refine g_sld (pc := 547) d_QuotaLawsLaw_law_547 e210 ?_
      refine g_aload_n (pc := 548) 0 d_QuotaLawsLaw_law_548 rfl rfl ?_
      refine g_iload_n (pc := 549) 3 d_QuotaLawsLaw_law_549 rfl rfl ?_
      refine g_iconst (pc := 550) (2 : Int32) d_QuotaLawsLaw_law_550 (by decide) ?_
      refine g_iadd (pc := 551) d_QuotaLawsLaw_law_551 ?_
      obtain ⟨x211, e212, hf⟩ := bd1_e hf
      refine g_sld (pc := 552) d_QuotaLawsLaw_law_552 e212 ?_
      refine g_aload_n (pc := 553) 0 d_QuotaLawsLaw_law_553 rfl rfl ?_
      refine g_iload_n (pc := 554) 3 d_QuotaLawsLaw_law_554 rfl rfl ?_
      refine g_iconst (pc := 555) (3 : Int32) d_QuotaLawsLaw_law_555 (by decide) ?_
      refine g_iadd (pc := 556) d_QuotaLawsLaw_law_556 ?_
      obtain ⟨x213, e214, hf⟩ := bd1_e hf
      refine g_sld (pc := 557) d_QuotaLawsLaw_law_557 e214 ?_
      refine g_ifeq (pc := 558) 565 d_QuotaLawsLaw_law_558 (by decide) (fun c215 => ?_) (fun c215 => ?_)
      · replace hf := (if_pos c215).symm.trans hf
        refine g_iconst (pc := 565) (0 : Int32) d_QuotaLawsLaw_law_565 (by decide) ?_
        refine g_lv [0, 1, 2, 3] rfl ?_
        exact t_QuotaLawsLaw_law_566 rec18 hrec18 _ _ _ _ _ _ _ _ _ _  hf
      · replace hf := (if_neg c215).symm.trans hf
        refine g_iconst (pc := 561) (1 : Int32) d_QuotaLawsLaw_law_561 (by decide) ?_
        refine g_goto (pc := 562) 566 d_QuotaLawsLaw_law_562 (by decide) ?_
        refine g_lv [0, 1, 2, 3] rfl ?_
        exact t_QuotaLawsLaw_law_566 rec18 hrec18 _ _ _ _ _ _ _ _ _ _  hf
    replace hf := (if_neg c208).symm.trans hf
    by_cases c216 : (x19 &&& (63 : Int32)) = (13 : Int32)
    · replace hf := (if_pos c216).symm.trans hf
      refine g_tabIn (pc := 32) 601 (13 : Int32) d_QuotaLawsLaw_law_32 c216 (by decide) (by decide) rfl (by decide) ?_
      refine g_aload_n (pc := 601) 1 d_QuotaLawsLaw_law_601 rfl rfl ?_
      refine g_aload_n (pc := 602) 0 d_QuotaLawsLaw_law_602 rfl rfl ?_
      refine g_iload_n (pc := 603) 3 d_QuotaLawsLaw_law_603 rfl rfl ?_
      refine g_iconst (pc := 604) (1 : Int32) d_QuotaLawsLaw_law_604 (by decide) ?_
      refine g_iadd (pc := 605) d_QuotaLawsLaw_law_605 ?_
      obtain ⟨x217, e218, hf⟩ := bd1_e hf
      refine g_sld (pc := 606) d_QuotaLawsLaw_law_606 e218 ?_
      refine g_aload_n (pc := 607) 0 d_QuotaLawsLaw_law_607 rfl rfl ?_
      refine g_iload_n (pc := 608) 3 d_QuotaLawsLaw_law_608 rfl rfl ?_
      refine g_iconst (pc := 609) (2 : Int32) d_QuotaLawsLaw_law_609 (by decide) ?_
      refine g_iadd (pc := 610) d_QuotaLawsLaw_law_610 ?_
      obtain ⟨x219, e220, hf⟩ := bd1_e hf
      refine g_sld (pc := 611) d_QuotaLawsLaw_law_611 e220 ?_
      refine g_aload_n (pc := 612) 0 d_QuotaLawsLaw_law_612 rfl rfl ?_
      refine g_iload_n (pc := 613) 3 d_QuotaLawsLaw_law_613 rfl rfl ?_
      refine g_iconst (pc := 614) (3 : Int32) d_QuotaLawsLaw_law_614 (by decide) ?_
      refine g_iadd (pc := 615) d_QuotaLawsLaw_law_615 ?_
      obtain ⟨x221, e222, hf⟩ := bd1_e hf
      refine g_sld (pc := 616) d_QuotaLawsLaw_law_616 e222 ?_
      refine g_ifeq (pc := 617) 624 d_QuotaLawsLaw_law_617 (by decide) (fun c223 => ?_) (fun c223 => ?_)
      · replace hf := (if_pos c223).symm.trans hf
        refine g_iconst (pc := 624) (0 : Int32) d_QuotaLawsLaw_law_624 (by decide) ?_
        refine g_lv [0, 1, 2, 3] rfl ?_
        exact t_QuotaLawsLaw_law_625 rec18 hrec18 _ _ _ _ _ _ _ _ _ _  hf
      · replace hf := (if_neg c223).symm.trans hf
        refine g_iconst (pc := 620) (1 : Int32) d_QuotaLawsLaw_law_620 (by decide) ?_
        refine g_goto (pc := 621) 625 d_QuotaLawsLaw_law_621 (by decide) ?_
        refine g_lv [0, 1, 2, 3] rfl ?_
        exact t_QuotaLawsLaw_law_625 rec18 hrec18 _ _ _ _ _ _ _ _ _ _  hf
    replace hf := (if_neg c216).symm.trans hf
    by_cases c224 : (x19 &&& (63 : Int32)) = (14 : Int32)
    · replace hf := (if_pos c224).symm.trans hf
      refine g_tabIn (pc := 32) 660 (14 : Int32) d_QuotaLawsLaw_law_32 c224 (by decide) (by decide) rfl (by decide) ?_
      refine g_aload_n (pc := 660) 1 d_QuotaLawsLaw_law_660 rfl rfl ?_
      refine g_aload_n (pc := 661) 0 d_QuotaLawsLaw_law_661 rfl rfl ?_
      refine g_iload_n (pc := 662) 3 d_QuotaLawsLaw_law_662 rfl rfl ?_
      refine g_iconst (pc := 663) (1 : Int32) d_QuotaLawsLaw_law_663 (by decide) ?_
      refine g_iadd (pc := 664) d_QuotaLawsLaw_law_664 ?_
      obtain ⟨x225, e226, hf⟩ := bd1_e hf
      refine g_sld (pc := 665) d_QuotaLawsLaw_law_665 e226 ?_
      refine g_aload_n (pc := 666) 0 d_QuotaLawsLaw_law_666 rfl rfl ?_
      refine g_iload_n (pc := 667) 3 d_QuotaLawsLaw_law_667 rfl rfl ?_
      refine g_iconst (pc := 668) (2 : Int32) d_QuotaLawsLaw_law_668 (by decide) ?_
      refine g_iadd (pc := 669) d_QuotaLawsLaw_law_669 ?_
      obtain ⟨x227, e228, hf⟩ := bd1_e hf
      refine g_sld (pc := 670) d_QuotaLawsLaw_law_670 e228 ?_
      obtain ⟨u230, e229, hf⟩ := bd1_e hf
      obtain ⟨x233, h231, e232, hf⟩ := bd2_e hf
      refine g_callV (pc := 671) (ci := 0) [.int x225, .int x227] (site_of si_Q_fund (by decide) (by decide)) wd_606 wd_607 wd_608 d_QuotaLawsLaw_law_671 rfl e229 (Nat.le_of_ble_eq_true rfl) (fun z => absurd z (by decide)) (fun z => absurd z (by decide)) (fun z => absurd z (by decide)) (c_Q_fund e232) rfl ?_
      refine g_st [.int x233] rfl ?_
      refine g_pop (pc := 674) d_QuotaLawsLaw_law_674 rfl ?_
      refine g_aload_n (pc := 675) 2 d_QuotaLawsLaw_law_675 rfl rfl ?_
      refine g_aload_n (pc := 676) 0 d_QuotaLawsLaw_law_676 rfl rfl ?_
      refine g_iload_n (pc := 677) 3 d_QuotaLawsLaw_law_677 rfl rfl ?_
      refine g_iconst (pc := 678) (1 : Int32) d_QuotaLawsLaw_law_678 (by decide) ?_
      refine g_iadd (pc := 679) d_QuotaLawsLaw_law_679 ?_
      obtain ⟨x234, e235, hf⟩ := bd1_e hf
      refine g_sld (pc := 680) d_QuotaLawsLaw_law_680 e235 ?_
      refine g_aload_n (pc := 681) 0 d_QuotaLawsLaw_law_681 rfl rfl ?_
      refine g_iload_n (pc := 682) 3 d_QuotaLawsLaw_law_682 rfl rfl ?_
      refine g_iconst (pc := 683) (2 : Int32) d_QuotaLawsLaw_law_683 (by decide) ?_
      refine g_iadd (pc := 684) d_QuotaLawsLaw_law_684 ?_
      obtain ⟨x236, e237, hf⟩ := bd1_e hf
      refine g_sld (pc := 685) d_QuotaLawsLaw_law_685 e237 ?_
      obtain ⟨u239, e238, hf⟩ := bd1_e hf
      obtain ⟨x242, h240, e241, hf⟩ := bd2_e hf
      refine g_callV (pc := 686) (ci := 8) [.int x234, .int x236] (site_of si_M_fund (by decide) (by decide)) wd_1221 wd_1222 wd_1223 d_QuotaLawsLaw_law_686 rfl e238 (Nat.le_of_ble_eq_true rfl) (fun z => absurd z (by decide)) (fun z => absurd z (by decide)) (fun z => absurd z (by decide)) (c_M_fund e241) rfl ?_
      refine g_st [.int x242] rfl ?_
      refine g_pop (pc := 689) d_QuotaLawsLaw_law_689 rfl ?_
      refine g_goto (pc := 690) 1342 d_QuotaLawsLaw_law_690 (by decide) ?_
      refine g_lv [0, 1, 2, 3] rfl ?_
      exact t_QuotaLawsLaw_law_1342 rec18 hrec18 _ _ _ _ _ _  hf
    replace hf := (if_neg c224).symm.trans hf
    by_cases c243 : (x19 &&& (63 : Int32)) = (15 : Int32)
    · replace hf := (if_pos c243).symm.trans hf
      refine g_tabIn (pc := 32) 693 (15 : Int32) d_QuotaLawsLaw_law_32 c243 (by decide) (by decide) rfl (by decide) ?_
      refine g_aload_n (pc := 693) 1 d_QuotaLawsLaw_law_693 rfl rfl ?_
      refine g_aload_n (pc := 694) 0 d_QuotaLawsLaw_law_694 rfl rfl ?_
      refine g_iload_n (pc := 695) 3 d_QuotaLawsLaw_law_695 rfl rfl ?_
      refine g_iconst (pc := 696) (1 : Int32) d_QuotaLawsLaw_law_696 (by decide) ?_
      refine g_iadd (pc := 697) d_QuotaLawsLaw_law_697 ?_
      obtain ⟨x244, e245, hf⟩ := bd1_e hf
      refine g_sld (pc := 698) d_QuotaLawsLaw_law_698 e245 ?_
      obtain ⟨u247, e246, hf⟩ := bd1_e hf
      obtain ⟨x250, h248, e249, hf⟩ := bd2_e hf
      refine g_callV (pc := 699) (ci := 0) [.int x244] (site_of si_Q_revive (by decide) (by decide)) wd_610 wd_611 wd_612 d_QuotaLawsLaw_law_699 rfl e246 (Nat.le_of_ble_eq_true rfl) (fun z => absurd z (by decide)) (fun z => absurd z (by decide)) (fun z => absurd z (by decide)) (c_Q_revive e249) rfl ?_
      refine g_st [.int x250] rfl ?_
      refine g_pop (pc := 702) d_QuotaLawsLaw_law_702 rfl ?_
      refine g_aload_n (pc := 703) 2 d_QuotaLawsLaw_law_703 rfl rfl ?_
      refine g_aload_n (pc := 704) 0 d_QuotaLawsLaw_law_704 rfl rfl ?_
      refine g_iload_n (pc := 705) 3 d_QuotaLawsLaw_law_705 rfl rfl ?_
      refine g_iconst (pc := 706) (1 : Int32) d_QuotaLawsLaw_law_706 (by decide) ?_
      refine g_iadd (pc := 707) d_QuotaLawsLaw_law_707 ?_
      obtain ⟨x251, e252, hf⟩ := bd1_e hf
      refine g_sld (pc := 708) d_QuotaLawsLaw_law_708 e252 ?_
      obtain ⟨u254, e253, hf⟩ := bd1_e hf
      obtain ⟨x257, h255, e256, hf⟩ := bd2_e hf
      refine g_callV (pc := 709) (ci := 8) [.int x251] (site_of si_M_revive (by decide) (by decide)) wd_1226 wd_1227 wd_1228 d_QuotaLawsLaw_law_709 rfl e253 (Nat.le_of_ble_eq_true rfl) (fun z => absurd z (by decide)) (fun z => absurd z (by decide)) (fun z => absurd z (by decide)) (c_M_revive e256) rfl ?_
      refine g_st [.int x257] rfl ?_
      refine g_pop (pc := 712) d_QuotaLawsLaw_law_712 rfl ?_
      refine g_goto (pc := 713) 1342 d_QuotaLawsLaw_law_713 (by decide) ?_
      refine g_lv [0, 1, 2, 3] rfl ?_
      exact t_QuotaLawsLaw_law_1342 rec18 hrec18 _ _ _ _ _ _  hf
    replace hf := (if_neg c243).symm.trans hf
    by_cases c258 : (x19 &&& (63 : Int32)) = (16 : Int32)
    · replace hf := (if_pos c258).symm.trans hf
      refine g_tabIn (pc := 32) 716 (16 : Int32) d_QuotaLawsLaw_law_32 c258 (by decide) (by decide) rfl (by decide) ?_
      refine g_aload_n (pc := 716) 1 d_QuotaLawsLaw_law_716 rfl rfl ?_
      refine g_aload_n (pc := 717) 0 d_QuotaLawsLaw_law_717 rfl rfl ?_
      refine g_iload_n (pc := 718) 3 d_QuotaLawsLaw_law_718 rfl rfl ?_
      refine g_iconst (pc := 719) (1 : Int32) d_QuotaLawsLaw_law_719 (by decide) ?_
      refine g_iadd (pc := 720) d_QuotaLawsLaw_law_720 ?_
      obtain ⟨x259, e260, hf⟩ := bd1_e hf
      refine g_sld (pc := 721) d_QuotaLawsLaw_law_721 e260 ?_
      refine g_aload_n (pc := 722) 0 d_QuotaLawsLaw_law_722 rfl rfl ?_
      refine g_iload_n (pc := 723) 3 d_QuotaLawsLaw_law_723 rfl rfl ?_
      refine g_iconst (pc := 724) (2 : Int32) d_QuotaLawsLaw_law_724 (by decide) ?_
      refine g_iadd (pc := 725) d_QuotaLawsLaw_law_725 ?_
      obtain ⟨x261, e262, hf⟩ := bd1_e hf
      refine g_sld (pc := 726) d_QuotaLawsLaw_law_726 e262 ?_
      obtain ⟨u264, e263, hf⟩ := bd1_e hf
      obtain ⟨x267, h265, e266, hf⟩ := bd2_e hf
      refine g_callV (pc := 727) (ci := 0) [.int x259, .int x261] (site_of si_Q_breaks (by decide) (by decide)) wd_621 wd_622 wd_623 d_QuotaLawsLaw_law_727 rfl e263 (Nat.le_of_ble_eq_true rfl) (fun z => absurd z (by decide)) (fun z => absurd z (by decide)) (fun z => absurd z (by decide)) (c_Q_breaks e266) rfl ?_
      refine g_st [.int x267] rfl ?_
      refine g_pop (pc := 730) d_QuotaLawsLaw_law_730 rfl ?_
      refine g_aload_n (pc := 731) 2 d_QuotaLawsLaw_law_731 rfl rfl ?_
      refine g_aload_n (pc := 732) 0 d_QuotaLawsLaw_law_732 rfl rfl ?_
      refine g_iload_n (pc := 733) 3 d_QuotaLawsLaw_law_733 rfl rfl ?_
      refine g_iconst (pc := 734) (1 : Int32) d_QuotaLawsLaw_law_734 (by decide) ?_
      refine g_iadd (pc := 735) d_QuotaLawsLaw_law_735 ?_
      obtain ⟨x268, e269, hf⟩ := bd1_e hf
      refine g_sld (pc := 736) d_QuotaLawsLaw_law_736 e269 ?_
      refine g_aload_n (pc := 737) 0 d_QuotaLawsLaw_law_737 rfl rfl ?_
      refine g_iload_n (pc := 738) 3 d_QuotaLawsLaw_law_738 rfl rfl ?_
      refine g_iconst (pc := 739) (2 : Int32) d_QuotaLawsLaw_law_739 (by decide) ?_
      refine g_iadd (pc := 740) d_QuotaLawsLaw_law_740 ?_
      obtain ⟨x270, e271, hf⟩ := bd1_e hf
      refine g_sld (pc := 741) d_QuotaLawsLaw_law_741 e271 ?_
      obtain ⟨u273, e272, hf⟩ := bd1_e hf
      obtain ⟨x276, h274, e275, hf⟩ := bd2_e hf
      refine g_callV (pc := 742) (ci := 8) [.int x268, .int x270] (site_of si_M_breaks (by decide) (by decide)) wd_1233 wd_1234 wd_1235 d_QuotaLawsLaw_law_742 rfl e272 (Nat.le_of_ble_eq_true rfl) (fun z => absurd z (by decide)) (fun z => absurd z (by decide)) (fun z => absurd z (by decide)) (c_M_breaks e275) rfl ?_
      refine g_st [.int x276] rfl ?_
      refine g_pop (pc := 745) d_QuotaLawsLaw_law_745 rfl ?_
      refine g_goto (pc := 746) 1342 d_QuotaLawsLaw_law_746 (by decide) ?_
      refine g_lv [0, 1, 2, 3] rfl ?_
      exact t_QuotaLawsLaw_law_1342 rec18 hrec18 _ _ _ _ _ _  hf
    replace hf := (if_neg c258).symm.trans hf
    by_cases c277 : (x19 &&& (63 : Int32)) = (17 : Int32)
    · replace hf := (if_pos c277).symm.trans hf
      refine g_tabIn (pc := 32) 749 (17 : Int32) d_QuotaLawsLaw_law_32 c277 (by decide) (by decide) rfl (by decide) ?_
      refine g_aload_n (pc := 749) 1 d_QuotaLawsLaw_law_749 rfl rfl ?_
      obtain ⟨u279, e278, hf⟩ := bd1_e hf
      obtain ⟨x282, h280, e281, hf⟩ := bd2_e hf
      refine g_callV (pc := 750) (ci := 0) [] (site_of si_Q_year (by decide) (by decide)) wd_634 wd_635 wd_636 d_QuotaLawsLaw_law_750 rfl e278 (Nat.le_of_ble_eq_true rfl) (fun z => absurd z (by decide)) (fun z => absurd z (by decide)) (fun z => absurd z (by decide)) (c_Q_year e281) rfl ?_
      refine g_st [.int x282] rfl ?_
      refine g_pop (pc := 753) d_QuotaLawsLaw_law_753 rfl ?_
      refine g_aload_n (pc := 754) 2 d_QuotaLawsLaw_law_754 rfl rfl ?_
      obtain ⟨u284, e283, hf⟩ := bd1_e hf
      obtain ⟨x287, h285, e286, hf⟩ := bd2_e hf
      refine g_callV (pc := 755) (ci := 8) [] (site_of si_M_year (by decide) (by decide)) wd_1237 wd_1238 wd_1239 d_QuotaLawsLaw_law_755 rfl e283 (Nat.le_of_ble_eq_true rfl) (fun z => absurd z (by decide)) (fun z => absurd z (by decide)) (fun z => absurd z (by decide)) (c_M_year e286) rfl ?_
      refine g_st [.int x287] rfl ?_
      refine g_pop (pc := 758) d_QuotaLawsLaw_law_758 rfl ?_
      refine g_goto (pc := 759) 1342 d_QuotaLawsLaw_law_759 (by decide) ?_
      refine g_lv [0, 1, 2, 3] rfl ?_
      exact t_QuotaLawsLaw_law_1342 rec18 hrec18 _ _ _ _ _ _  hf
    replace hf := (if_neg c277).symm.trans hf
    by_cases c288 : (x19 &&& (63 : Int32)) = (18 : Int32)
    · replace hf := (if_pos c288).symm.trans hf
      refine g_tabIn (pc := 32) 762 (18 : Int32) d_QuotaLawsLaw_law_32 c288 (by decide) (by decide) rfl (by decide) ?_
      refine g_aload_n (pc := 762) 1 d_QuotaLawsLaw_law_762 rfl rfl ?_
      obtain ⟨u290, e289, hf⟩ := bd1_e hf
      obtain ⟨x293, h291, e292, hf⟩ := bd2_e hf
      refine g_callV (pc := 763) (ci := 0) [] (site_of si_Q_falls (by decide) (by decide)) wd_648 wd_649 wd_650 d_QuotaLawsLaw_law_763 rfl e289 (Nat.le_of_ble_eq_true rfl) (fun z => absurd z (by decide)) (fun z => absurd z (by decide)) (fun z => absurd z (by decide)) (c_Q_falls e292) rfl ?_
      refine g_st [.int x293] rfl ?_
      refine g_pop (pc := 766) d_QuotaLawsLaw_law_766 rfl ?_
      refine g_aload_n (pc := 767) 2 d_QuotaLawsLaw_law_767 rfl rfl ?_
      obtain ⟨u295, e294, hf⟩ := bd1_e hf
      obtain ⟨x298, h296, e297, hf⟩ := bd2_e hf
      refine g_callV (pc := 768) (ci := 8) [] (site_of si_M_falls (by decide) (by decide)) wd_1245 wd_1246 wd_1247 d_QuotaLawsLaw_law_768 rfl e294 (Nat.le_of_ble_eq_true rfl) (fun z => absurd z (by decide)) (fun z => absurd z (by decide)) (fun z => absurd z (by decide)) (c_M_falls e297) rfl ?_
      refine g_st [.int x298] rfl ?_
      refine g_pop (pc := 771) d_QuotaLawsLaw_law_771 rfl ?_
      refine g_goto (pc := 772) 1342 d_QuotaLawsLaw_law_772 (by decide) ?_
      refine g_lv [0, 1, 2, 3] rfl ?_
      exact t_QuotaLawsLaw_law_1342 rec18 hrec18 _ _ _ _ _ _  hf
    replace hf := (if_neg c288).symm.trans hf
    by_cases c299 : (x19 &&& (63 : Int32)) = (19 : Int32)
    · replace hf := (if_pos c299).symm.trans hf
      refine g_tabIn (pc := 32) 775 (19 : Int32) d_QuotaLawsLaw_law_32 c299 (by decide) (by decide) rfl (by decide) ?_
      refine g_aload_n (pc := 775) 1 d_QuotaLawsLaw_law_775 rfl rfl ?_
      refine g_aload_n (pc := 776) 0 d_QuotaLawsLaw_law_776 rfl rfl ?_
      refine g_iload_n (pc := 777) 3 d_QuotaLawsLaw_law_777 rfl rfl ?_
      refine g_iconst (pc := 778) (1 : Int32) d_QuotaLawsLaw_law_778 (by decide) ?_
      refine g_iadd (pc := 779) d_QuotaLawsLaw_law_779 ?_
      obtain ⟨x300, e301, hf⟩ := bd1_e hf
      refine g_sld (pc := 780) d_QuotaLawsLaw_law_780 e301 ?_
      obtain ⟨u303, e302, hf⟩ := bd1_e hf
      obtain ⟨x306, h304, e305, hf⟩ := bd2_e hf
      refine g_callV (pc := 781) (ci := 0) [.int x300] (site_of si_Q_most (by decide) (by decide)) wd_653 wd_654 wd_655 d_QuotaLawsLaw_law_781 rfl e302 (Nat.le_of_ble_eq_true rfl) (fun z => absurd z (by decide)) (fun z => absurd z (by decide)) (fun z => absurd z (by decide)) (c_Q_most e305) rfl ?_
      refine g_st [.int x306] rfl ?_
      refine g_pop (pc := 784) d_QuotaLawsLaw_law_784 rfl ?_
      refine g_aload_n (pc := 785) 2 d_QuotaLawsLaw_law_785 rfl rfl ?_
      refine g_aload_n (pc := 786) 0 d_QuotaLawsLaw_law_786 rfl rfl ?_
      refine g_iload_n (pc := 787) 3 d_QuotaLawsLaw_law_787 rfl rfl ?_
      refine g_iconst (pc := 788) (1 : Int32) d_QuotaLawsLaw_law_788 (by decide) ?_
      refine g_iadd (pc := 789) d_QuotaLawsLaw_law_789 ?_
      obtain ⟨x307, e308, hf⟩ := bd1_e hf
      refine g_sld (pc := 790) d_QuotaLawsLaw_law_790 e308 ?_
      obtain ⟨u310, e309, hf⟩ := bd1_e hf
      obtain ⟨x313, h311, e312, hf⟩ := bd2_e hf
      refine g_callV (pc := 791) (ci := 8) [.int x307] (site_of si_M_most (by decide) (by decide)) wd_1249 wd_1250 wd_1251 d_QuotaLawsLaw_law_791 rfl e309 (Nat.le_of_ble_eq_true rfl) (fun z => absurd z (by decide)) (fun z => absurd z (by decide)) (fun z => absurd z (by decide)) (c_M_most e312) rfl ?_
      refine g_st [.int x313] rfl ?_
      refine g_pop (pc := 794) d_QuotaLawsLaw_law_794 rfl ?_
      refine g_goto (pc := 795) 1342 d_QuotaLawsLaw_law_795 (by decide) ?_
      refine g_lv [0, 1, 2, 3] rfl ?_
      exact t_QuotaLawsLaw_law_1342 rec18 hrec18 _ _ _ _ _ _  hf
    replace hf := (if_neg c299).symm.trans hf
    by_cases c314 : (x19 &&& (63 : Int32)) = (20 : Int32)
    · replace hf := (if_pos c314).symm.trans hf
      refine g_tabIn (pc := 32) 798 (20 : Int32) d_QuotaLawsLaw_law_32 c314 (by decide) (by decide) rfl (by decide) ?_
      refine g_aload_n (pc := 798) 1 d_QuotaLawsLaw_law_798 rfl rfl ?_
      refine g_aload_n (pc := 799) 0 d_QuotaLawsLaw_law_799 rfl rfl ?_
      refine g_iload_n (pc := 800) 3 d_QuotaLawsLaw_law_800 rfl rfl ?_
      refine g_iconst (pc := 801) (1 : Int32) d_QuotaLawsLaw_law_801 (by decide) ?_
      refine g_iadd (pc := 802) d_QuotaLawsLaw_law_802 ?_
      obtain ⟨x315, e316, hf⟩ := bd1_e hf
      refine g_sld (pc := 803) d_QuotaLawsLaw_law_803 e316 ?_
      obtain ⟨u318, e317, hf⟩ := bd1_e hf
      obtain ⟨x321, h319, e320, hf⟩ := bd2_e hf
      refine g_callV (pc := 804) (ci := 0) [.int x315] (site_of si_Q_rota (by decide) (by decide)) wd_657 wd_658 wd_659 d_QuotaLawsLaw_law_804 rfl e317 (Nat.le_of_ble_eq_true rfl) (fun z => absurd z (by decide)) (fun z => absurd z (by decide)) (fun z => absurd z (by decide)) (c_Q_rota e320) rfl ?_
      refine g_st [.int x321] rfl ?_
      refine g_pop (pc := 807) d_QuotaLawsLaw_law_807 rfl ?_
      refine g_aload_n (pc := 808) 2 d_QuotaLawsLaw_law_808 rfl rfl ?_
      refine g_aload_n (pc := 809) 0 d_QuotaLawsLaw_law_809 rfl rfl ?_
      refine g_iload_n (pc := 810) 3 d_QuotaLawsLaw_law_810 rfl rfl ?_
      refine g_iconst (pc := 811) (1 : Int32) d_QuotaLawsLaw_law_811 (by decide) ?_
      refine g_iadd (pc := 812) d_QuotaLawsLaw_law_812 ?_
      obtain ⟨x322, e323, hf⟩ := bd1_e hf
      refine g_sld (pc := 813) d_QuotaLawsLaw_law_813 e323 ?_
      obtain ⟨u325, e324, hf⟩ := bd1_e hf
      obtain ⟨x328, h326, e327, hf⟩ := bd2_e hf
      refine g_callV (pc := 814) (ci := 8) [.int x322] (site_of si_M_rota (by decide) (by decide)) wd_1253 wd_1254 wd_1255 d_QuotaLawsLaw_law_814 rfl e324 (Nat.le_of_ble_eq_true rfl) (fun z => absurd z (by decide)) (fun z => absurd z (by decide)) (fun z => absurd z (by decide)) (c_M_rota e327) rfl ?_
      refine g_st [.int x328] rfl ?_
      refine g_pop (pc := 817) d_QuotaLawsLaw_law_817 rfl ?_
      refine g_goto (pc := 818) 1342 d_QuotaLawsLaw_law_818 (by decide) ?_
      refine g_lv [0, 1, 2, 3] rfl ?_
      exact t_QuotaLawsLaw_law_1342 rec18 hrec18 _ _ _ _ _ _  hf
    replace hf := (if_neg c314).symm.trans hf
    by_cases c329 : (x19 &&& (63 : Int32)) = (21 : Int32)
    · replace hf := (if_pos c329).symm.trans hf
      refine g_tabIn (pc := 32) 821 (21 : Int32) d_QuotaLawsLaw_law_32 c329 (by decide) (by decide) rfl (by decide) ?_
      refine g_aload_n (pc := 821) 1 d_QuotaLawsLaw_law_821 rfl rfl ?_
      refine g_aload_n (pc := 822) 0 d_QuotaLawsLaw_law_822 rfl rfl ?_
      refine g_iload_n (pc := 823) 3 d_QuotaLawsLaw_law_823 rfl rfl ?_
      refine g_iconst (pc := 824) (1 : Int32) d_QuotaLawsLaw_law_824 (by decide) ?_
      refine g_iadd (pc := 825) d_QuotaLawsLaw_law_825 ?_
      obtain ⟨x330, e331, hf⟩ := bd1_e hf
      refine g_sld (pc := 826) d_QuotaLawsLaw_law_826 e331 ?_
      obtain ⟨u333, e332, hf⟩ := bd1_e hf
      obtain ⟨x336, h334, e335, hf⟩ := bd2_e hf
      refine g_callV (pc := 827) (ci := 0) [.int x330] (site_of si_Q_more (by decide) (by decide)) wd_692 wd_693 wd_694 d_QuotaLawsLaw_law_827 rfl e332 (Nat.le_of_ble_eq_true rfl) (fun z => absurd z (by decide)) (fun z => absurd z (by decide)) (fun z => absurd z (by decide)) (c_Q_more e335) rfl ?_
      refine g_st [.int x336] rfl ?_
      refine g_pop (pc := 830) d_QuotaLawsLaw_law_830 rfl ?_
      refine g_aload_n (pc := 831) 2 d_QuotaLawsLaw_law_831 rfl rfl ?_
      refine g_aload_n (pc := 832) 0 d_QuotaLawsLaw_law_832 rfl rfl ?_
      refine g_iload_n (pc := 833) 3 d_QuotaLawsLaw_law_833 rfl rfl ?_
      refine g_iconst (pc := 834) (1 : Int32) d_QuotaLawsLaw_law_834 (by decide) ?_
      refine g_iadd (pc := 835) d_QuotaLawsLaw_law_835 ?_
      obtain ⟨x337, e338, hf⟩ := bd1_e hf
      refine g_sld (pc := 836) d_QuotaLawsLaw_law_836 e338 ?_
      obtain ⟨u340, e339, hf⟩ := bd1_e hf
      obtain ⟨x343, h341, e342, hf⟩ := bd2_e hf
      refine g_callV (pc := 837) (ci := 8) [.int x337] (site_of si_M_more (by decide) (by decide)) wd_1286 wd_1287 wd_1288 d_QuotaLawsLaw_law_837 rfl e339 (Nat.le_of_ble_eq_true rfl) (fun z => absurd z (by decide)) (fun z => absurd z (by decide)) (fun z => absurd z (by decide)) (c_M_more e342) rfl ?_
      refine g_st [.int x343] rfl ?_
      refine g_pop (pc := 840) d_QuotaLawsLaw_law_840 rfl ?_
      refine g_goto (pc := 841) 1342 d_QuotaLawsLaw_law_841 (by decide) ?_
      refine g_lv [0, 1, 2, 3] rfl ?_
      exact t_QuotaLawsLaw_law_1342 rec18 hrec18 _ _ _ _ _ _  hf
    replace hf := (if_neg c329).symm.trans hf
    by_cases c344 : (x19 &&& (63 : Int32)) = (22 : Int32)
    · replace hf := (if_pos c344).symm.trans hf
      refine g_tabIn (pc := 32) 844 (22 : Int32) d_QuotaLawsLaw_law_32 c344 (by decide) (by decide) rfl (by decide) ?_
      refine g_aload_n (pc := 844) 1 d_QuotaLawsLaw_law_844 rfl rfl ?_
      refine g_aload_n (pc := 845) 0 d_QuotaLawsLaw_law_845 rfl rfl ?_
      refine g_iload_n (pc := 846) 3 d_QuotaLawsLaw_law_846 rfl rfl ?_
      refine g_iconst (pc := 847) (1 : Int32) d_QuotaLawsLaw_law_847 (by decide) ?_
      refine g_iadd (pc := 848) d_QuotaLawsLaw_law_848 ?_
      obtain ⟨x345, e346, hf⟩ := bd1_e hf
      refine g_sld (pc := 849) d_QuotaLawsLaw_law_849 e346 ?_
      obtain ⟨u348, e347, hf⟩ := bd1_e hf
      obtain ⟨x351, h349, e350, hf⟩ := bd2_e hf
      refine g_callV (pc := 850) (ci := 0) [.int x345] (site_of si_Q_together (by decide) (by decide)) wd_715 wd_716 wd_717 d_QuotaLawsLaw_law_850 rfl e347 (Nat.le_of_ble_eq_true rfl) (fun z => absurd z (by decide)) (fun z => absurd z (by decide)) (fun z => absurd z (by decide)) (c_Q_together e350) rfl ?_
      refine g_st [.int x351] rfl ?_
      refine g_pop (pc := 853) d_QuotaLawsLaw_law_853 rfl ?_
      refine g_aload_n (pc := 854) 2 d_QuotaLawsLaw_law_854 rfl rfl ?_
      refine g_aload_n (pc := 855) 0 d_QuotaLawsLaw_law_855 rfl rfl ?_
      refine g_iload_n (pc := 856) 3 d_QuotaLawsLaw_law_856 rfl rfl ?_
      refine g_iconst (pc := 857) (1 : Int32) d_QuotaLawsLaw_law_857 (by decide) ?_
      refine g_iadd (pc := 858) d_QuotaLawsLaw_law_858 ?_
      obtain ⟨x352, e353, hf⟩ := bd1_e hf
      refine g_sld (pc := 859) d_QuotaLawsLaw_law_859 e353 ?_
      obtain ⟨u355, e354, hf⟩ := bd1_e hf
      obtain ⟨x358, h356, e357, hf⟩ := bd2_e hf
      refine g_callV (pc := 860) (ci := 8) [.int x352] (site_of si_M_together (by decide) (by decide)) wd_1290 wd_1291 wd_1292 d_QuotaLawsLaw_law_860 rfl e354 (Nat.le_of_ble_eq_true rfl) (fun z => absurd z (by decide)) (fun z => absurd z (by decide)) (fun z => absurd z (by decide)) (c_M_together e357) rfl ?_
      refine g_st [.int x358] rfl ?_
      refine g_pop (pc := 863) d_QuotaLawsLaw_law_863 rfl ?_
      refine g_goto (pc := 864) 1342 d_QuotaLawsLaw_law_864 (by decide) ?_
      refine g_lv [0, 1, 2, 3] rfl ?_
      exact t_QuotaLawsLaw_law_1342 rec18 hrec18 _ _ _ _ _ _  hf
    replace hf := (if_neg c344).symm.trans hf
    by_cases c359 : (x19 &&& (63 : Int32)) = (23 : Int32)
    · replace hf := (if_pos c359).symm.trans hf
      refine g_tabIn (pc := 32) 867 (23 : Int32) d_QuotaLawsLaw_law_32 c359 (by decide) (by decide) rfl (by decide) ?_
      refine g_aload_n (pc := 867) 1 d_QuotaLawsLaw_law_867 rfl rfl ?_
      refine g_aload_n (pc := 868) 0 d_QuotaLawsLaw_law_868 rfl rfl ?_
      refine g_iload_n (pc := 869) 3 d_QuotaLawsLaw_law_869 rfl rfl ?_
      refine g_iconst (pc := 870) (1 : Int32) d_QuotaLawsLaw_law_870 (by decide) ?_
      refine g_iadd (pc := 871) d_QuotaLawsLaw_law_871 ?_
      obtain ⟨x360, e361, hf⟩ := bd1_e hf
      refine g_sld (pc := 872) d_QuotaLawsLaw_law_872 e361 ?_
      refine g_aload_n (pc := 873) 0 d_QuotaLawsLaw_law_873 rfl rfl ?_
      refine g_iload_n (pc := 874) 3 d_QuotaLawsLaw_law_874 rfl rfl ?_
      refine g_iconst (pc := 875) (2 : Int32) d_QuotaLawsLaw_law_875 (by decide) ?_
      refine g_iadd (pc := 876) d_QuotaLawsLaw_law_876 ?_
      obtain ⟨x362, e363, hf⟩ := bd1_e hf
      refine g_sld (pc := 877) d_QuotaLawsLaw_law_877 e363 ?_
      obtain ⟨u365, e364, hf⟩ := bd1_e hf
      obtain ⟨x368, h366, e367, hf⟩ := bd2_e hf
      refine g_callV (pc := 878) (ci := 0) [.int x360, .int x362] (site_of si_Q_kill (by decide) (by decide)) wd_720 wd_721 wd_722 d_QuotaLawsLaw_law_878 rfl e364 (Nat.le_of_ble_eq_true rfl) (fun z => absurd z (by decide)) (fun z => absurd z (by decide)) (fun z => absurd z (by decide)) (c_Q_kill e367) rfl ?_
      refine g_st [.int x368] rfl ?_
      refine g_pop (pc := 881) d_QuotaLawsLaw_law_881 rfl ?_
      refine g_aload_n (pc := 882) 2 d_QuotaLawsLaw_law_882 rfl rfl ?_
      refine g_aload_n (pc := 883) 0 d_QuotaLawsLaw_law_883 rfl rfl ?_
      refine g_iload_n (pc := 884) 3 d_QuotaLawsLaw_law_884 rfl rfl ?_
      refine g_iconst (pc := 885) (1 : Int32) d_QuotaLawsLaw_law_885 (by decide) ?_
      refine g_iadd (pc := 886) d_QuotaLawsLaw_law_886 ?_
      obtain ⟨x369, e370, hf⟩ := bd1_e hf
      refine g_sld (pc := 887) d_QuotaLawsLaw_law_887 e370 ?_
      refine g_aload_n (pc := 888) 0 d_QuotaLawsLaw_law_888 rfl rfl ?_
      refine g_iload_n (pc := 889) 3 d_QuotaLawsLaw_law_889 rfl rfl ?_
      refine g_iconst (pc := 890) (2 : Int32) d_QuotaLawsLaw_law_890 (by decide) ?_
      refine g_iadd (pc := 891) d_QuotaLawsLaw_law_891 ?_
      obtain ⟨x371, e372, hf⟩ := bd1_e hf
      refine g_sld (pc := 892) d_QuotaLawsLaw_law_892 e372 ?_
      obtain ⟨u374, e373, hf⟩ := bd1_e hf
      obtain ⟨x377, h375, e376, hf⟩ := bd2_e hf
      refine g_callV (pc := 893) (ci := 8) [.int x369, .int x371] (site_of si_M_kill (by decide) (by decide)) wd_1294 wd_1295 wd_1296 d_QuotaLawsLaw_law_893 rfl e373 (Nat.le_of_ble_eq_true rfl) (fun z => absurd z (by decide)) (fun z => absurd z (by decide)) (fun z => absurd z (by decide)) (c_M_kill e376) rfl ?_
      refine g_st [.int x377] rfl ?_
      refine g_pop (pc := 896) d_QuotaLawsLaw_law_896 rfl ?_
      refine g_goto (pc := 897) 1342 d_QuotaLawsLaw_law_897 (by decide) ?_
      refine g_lv [0, 1, 2, 3] rfl ?_
      exact t_QuotaLawsLaw_law_1342 rec18 hrec18 _ _ _ _ _ _  hf
    replace hf := (if_neg c359).symm.trans hf
    by_cases c378 : (x19 &&& (63 : Int32)) = (24 : Int32)
    · replace hf := (if_pos c378).symm.trans hf
      refine g_tabIn (pc := 32) 900 (24 : Int32) d_QuotaLawsLaw_law_32 c378 (by decide) (by decide) rfl (by decide) ?_
      refine g_aload_n (pc := 900) 1 d_QuotaLawsLaw_law_900 rfl rfl ?_
      refine g_aload_n (pc := 901) 0 d_QuotaLawsLaw_law_901 rfl rfl ?_
      refine g_iload_n (pc := 902) 3 d_QuotaLawsLaw_law_902 rfl rfl ?_
      refine g_iconst (pc := 903) (1 : Int32) d_QuotaLawsLaw_law_903 (by decide) ?_
      refine g_iadd (pc := 904) d_QuotaLawsLaw_law_904 ?_
      obtain ⟨x379, e380, hf⟩ := bd1_e hf
      refine g_sld (pc := 905) d_QuotaLawsLaw_law_905 e380 ?_
      obtain ⟨u382, e381, hf⟩ := bd1_e hf
      obtain ⟨x385, h383, e384, hf⟩ := bd2_e hf
      refine g_callV (pc := 906) (ci := 0) [.int x379] (site_of si_Q_selfish (by decide) (by decide)) wd_728 wd_729 wd_730 d_QuotaLawsLaw_law_906 rfl e381 (Nat.le_of_ble_eq_true rfl) (fun z => absurd z (by decide)) (fun z => absurd z (by decide)) (fun z => absurd z (by decide)) (c_Q_selfish e384) rfl ?_
      refine g_st [.int x385] rfl ?_
      refine g_pop (pc := 909) d_QuotaLawsLaw_law_909 rfl ?_
      refine g_aload_n (pc := 910) 2 d_QuotaLawsLaw_law_910 rfl rfl ?_
      refine g_aload_n (pc := 911) 0 d_QuotaLawsLaw_law_911 rfl rfl ?_
      refine g_iload_n (pc := 912) 3 d_QuotaLawsLaw_law_912 rfl rfl ?_
      refine g_iconst (pc := 913) (1 : Int32) d_QuotaLawsLaw_law_913 (by decide) ?_
      refine g_iadd (pc := 914) d_QuotaLawsLaw_law_914 ?_
      obtain ⟨x386, e387, hf⟩ := bd1_e hf
      refine g_sld (pc := 915) d_QuotaLawsLaw_law_915 e387 ?_
      obtain ⟨u389, e388, hf⟩ := bd1_e hf
      obtain ⟨x392, h390, e391, hf⟩ := bd2_e hf
      refine g_callV (pc := 916) (ci := 8) [.int x386] (site_of si_M_selfish (by decide) (by decide)) wd_1302 wd_1303 wd_1304 d_QuotaLawsLaw_law_916 rfl e388 (Nat.le_of_ble_eq_true rfl) (fun z => absurd z (by decide)) (fun z => absurd z (by decide)) (fun z => absurd z (by decide)) (c_M_selfish e391) rfl ?_
      refine g_st [.int x392] rfl ?_
      refine g_pop (pc := 919) d_QuotaLawsLaw_law_919 rfl ?_
      refine g_goto (pc := 920) 1342 d_QuotaLawsLaw_law_920 (by decide) ?_
      refine g_lv [0, 1, 2, 3] rfl ?_
      exact t_QuotaLawsLaw_law_1342 rec18 hrec18 _ _ _ _ _ _  hf
    replace hf := (if_neg c378).symm.trans hf
    by_cases c393 : (x19 &&& (63 : Int32)) = (25 : Int32)
    · replace hf := (if_pos c393).symm.trans hf
      refine g_tabIn (pc := 32) 923 (25 : Int32) d_QuotaLawsLaw_law_32 c393 (by decide) (by decide) rfl (by decide) ?_
      refine g_aload_n (pc := 923) 1 d_QuotaLawsLaw_law_923 rfl rfl ?_
      refine g_aload_n (pc := 924) 0 d_QuotaLawsLaw_law_924 rfl rfl ?_
      refine g_iload_n (pc := 925) 3 d_QuotaLawsLaw_law_925 rfl rfl ?_
      refine g_iconst (pc := 926) (1 : Int32) d_QuotaLawsLaw_law_926 (by decide) ?_
      refine g_iadd (pc := 927) d_QuotaLawsLaw_law_927 ?_
      obtain ⟨x394, e395, hf⟩ := bd1_e hf
      refine g_sld (pc := 928) d_QuotaLawsLaw_law_928 e395 ?_
      refine g_aload_n (pc := 929) 0 d_QuotaLawsLaw_law_929 rfl rfl ?_
      refine g_iload_n (pc := 930) 3 d_QuotaLawsLaw_law_930 rfl rfl ?_
      refine g_iconst (pc := 931) (2 : Int32) d_QuotaLawsLaw_law_931 (by decide) ?_
      refine g_iadd (pc := 932) d_QuotaLawsLaw_law_932 ?_
      obtain ⟨x396, e397, hf⟩ := bd1_e hf
      refine g_sld (pc := 933) d_QuotaLawsLaw_law_933 e397 ?_
      obtain ⟨u399, e398, hf⟩ := bd1_e hf
      obtain ⟨x402, h400, e401, hf⟩ := bd2_e hf
      refine g_callV (pc := 934) (ci := 0) [.int x394, .int x396] (site_of si_Q_luck (by decide) (by decide)) wd_745 wd_746 wd_747 d_QuotaLawsLaw_law_934 rfl e398 (Nat.le_of_ble_eq_true rfl) (fun z => absurd z (by decide)) (fun z => absurd z (by decide)) (fun z => absurd z (by decide)) (c_Q_luck e401) rfl ?_
      refine g_st [.long x402] rfl ?_
      refine g_pop2 (pc := 937) d_QuotaLawsLaw_law_937 rfl ?_
      refine g_aload_n (pc := 938) 2 d_QuotaLawsLaw_law_938 rfl rfl ?_
      refine g_aload_n (pc := 939) 0 d_QuotaLawsLaw_law_939 rfl rfl ?_
      refine g_iload_n (pc := 940) 3 d_QuotaLawsLaw_law_940 rfl rfl ?_
      refine g_iconst (pc := 941) (1 : Int32) d_QuotaLawsLaw_law_941 (by decide) ?_
      refine g_iadd (pc := 942) d_QuotaLawsLaw_law_942 ?_
      obtain ⟨x403, e404, hf⟩ := bd1_e hf
      refine g_sld (pc := 943) d_QuotaLawsLaw_law_943 e404 ?_
      refine g_aload_n (pc := 944) 0 d_QuotaLawsLaw_law_944 rfl rfl ?_
      refine g_iload_n (pc := 945) 3 d_QuotaLawsLaw_law_945 rfl rfl ?_
      refine g_iconst (pc := 946) (2 : Int32) d_QuotaLawsLaw_law_946 (by decide) ?_
      refine g_iadd (pc := 947) d_QuotaLawsLaw_law_947 ?_
      obtain ⟨x405, e406, hf⟩ := bd1_e hf
      refine g_sld (pc := 948) d_QuotaLawsLaw_law_948 e406 ?_
      obtain ⟨u408, e407, hf⟩ := bd1_e hf
      obtain ⟨x411, h409, e410, hf⟩ := bd2_e hf
      refine g_callV (pc := 949) (ci := 8) [.int x403, .int x405] (site_of si_M_luck (by decide) (by decide)) wd_1319 wd_1320 wd_1321 d_QuotaLawsLaw_law_949 rfl e407 (Nat.le_of_ble_eq_true rfl) (fun z => absurd z (by decide)) (fun z => absurd z (by decide)) (fun z => absurd z (by decide)) (c_M_luck e410) rfl ?_
      refine g_st [.long x411] rfl ?_
      refine g_pop2 (pc := 952) d_QuotaLawsLaw_law_952 rfl ?_
      refine g_goto (pc := 953) 1342 d_QuotaLawsLaw_law_953 (by decide) ?_
      refine g_lv [0, 1, 2, 3] rfl ?_
      exact t_QuotaLawsLaw_law_1342 rec18 hrec18 _ _ _ _ _ _  hf
    replace hf := (if_neg c393).symm.trans hf
    by_cases c412 : (x19 &&& (63 : Int32)) = (26 : Int32)
    · replace hf := (if_pos c412).symm.trans hf
      refine g_tabIn (pc := 32) 956 (26 : Int32) d_QuotaLawsLaw_law_32 c412 (by decide) (by decide) rfl (by decide) ?_
      refine g_aload_n (pc := 956) 1 d_QuotaLawsLaw_law_956 rfl rfl ?_
      refine g_aload_n (pc := 957) 0 d_QuotaLawsLaw_law_957 rfl rfl ?_
      refine g_iload_n (pc := 958) 3 d_QuotaLawsLaw_law_958 rfl rfl ?_
      refine g_iconst (pc := 959) (1 : Int32) d_QuotaLawsLaw_law_959 (by decide) ?_
      refine g_iadd (pc := 960) d_QuotaLawsLaw_law_960 ?_
      obtain ⟨x413, e414, hf⟩ := bd1_e hf
      refine g_sld (pc := 961) d_QuotaLawsLaw_law_961 e414 ?_
      refine g_aload_n (pc := 962) 0 d_QuotaLawsLaw_law_962 rfl rfl ?_
      refine g_iload_n (pc := 963) 3 d_QuotaLawsLaw_law_963 rfl rfl ?_
      refine g_iconst (pc := 964) (2 : Int32) d_QuotaLawsLaw_law_964 (by decide) ?_
      refine g_iadd (pc := 965) d_QuotaLawsLaw_law_965 ?_
      obtain ⟨x415, e416, hf⟩ := bd1_e hf
      refine g_sld (pc := 966) d_QuotaLawsLaw_law_966 e416 ?_
      refine g_aload_n (pc := 967) 0 d_QuotaLawsLaw_law_967 rfl rfl ?_
      refine g_iload_n (pc := 968) 3 d_QuotaLawsLaw_law_968 rfl rfl ?_
      refine g_iconst (pc := 969) (3 : Int32) d_QuotaLawsLaw_law_969 (by decide) ?_
      refine g_iadd (pc := 970) d_QuotaLawsLaw_law_970 ?_
      obtain ⟨x417, e418, hf⟩ := bd1_e hf
      refine g_sld (pc := 971) d_QuotaLawsLaw_law_971 e418 ?_
      obtain ⟨u420, e419, hf⟩ := bd1_e hf
      obtain ⟨x423, h421, e422, hf⟩ := bd2_e hf
      refine g_callV (pc := 972) (ci := 0) [.int x413, .int x415, .int x417] (site_of si_Q_see (by decide) (by decide)) wd_768 wd_769 wd_770 d_QuotaLawsLaw_law_972 rfl e419 (Nat.le_of_ble_eq_true rfl) (fun z => absurd z (by decide)) (fun z => absurd z (by decide)) (fun z => absurd z (by decide)) (c_Q_see e422) rfl ?_
      refine g_st [.int x423] rfl ?_
      refine g_pop (pc := 975) d_QuotaLawsLaw_law_975 rfl ?_
      refine g_aload_n (pc := 976) 2 d_QuotaLawsLaw_law_976 rfl rfl ?_
      refine g_aload_n (pc := 977) 0 d_QuotaLawsLaw_law_977 rfl rfl ?_
      refine g_iload_n (pc := 978) 3 d_QuotaLawsLaw_law_978 rfl rfl ?_
      refine g_iconst (pc := 979) (1 : Int32) d_QuotaLawsLaw_law_979 (by decide) ?_
      refine g_iadd (pc := 980) d_QuotaLawsLaw_law_980 ?_
      obtain ⟨x424, e425, hf⟩ := bd1_e hf
      refine g_sld (pc := 981) d_QuotaLawsLaw_law_981 e425 ?_
      refine g_aload_n (pc := 982) 0 d_QuotaLawsLaw_law_982 rfl rfl ?_
      refine g_iload_n (pc := 983) 3 d_QuotaLawsLaw_law_983 rfl rfl ?_
      refine g_iconst (pc := 984) (2 : Int32) d_QuotaLawsLaw_law_984 (by decide) ?_
      refine g_iadd (pc := 985) d_QuotaLawsLaw_law_985 ?_
      obtain ⟨x426, e427, hf⟩ := bd1_e hf
      refine g_sld (pc := 986) d_QuotaLawsLaw_law_986 e427 ?_
      refine g_aload_n (pc := 987) 0 d_QuotaLawsLaw_law_987 rfl rfl ?_
      refine g_iload_n (pc := 988) 3 d_QuotaLawsLaw_law_988 rfl rfl ?_
      refine g_iconst (pc := 989) (3 : Int32) d_QuotaLawsLaw_law_989 (by decide) ?_
      refine g_iadd (pc := 990) d_QuotaLawsLaw_law_990 ?_
      obtain ⟨x428, e429, hf⟩ := bd1_e hf
      refine g_sld (pc := 991) d_QuotaLawsLaw_law_991 e429 ?_
      obtain ⟨u431, e430, hf⟩ := bd1_e hf
      obtain ⟨x434, h432, e433, hf⟩ := bd2_e hf
      refine g_callV (pc := 992) (ci := 8) [.int x424, .int x426, .int x428] (site_of si_M_see (by decide) (by decide)) wd_1328 wd_1329 wd_1330 d_QuotaLawsLaw_law_992 rfl e430 (Nat.le_of_ble_eq_true rfl) (fun z => absurd z (by decide)) (fun z => absurd z (by decide)) (fun z => absurd z (by decide)) (c_M_see e433) rfl ?_
      refine g_st [.int x434] rfl ?_
      refine g_pop (pc := 995) d_QuotaLawsLaw_law_995 rfl ?_
      refine g_goto (pc := 996) 1342 d_QuotaLawsLaw_law_996 (by decide) ?_
      refine g_lv [0, 1, 2, 3] rfl ?_
      exact t_QuotaLawsLaw_law_1342 rec18 hrec18 _ _ _ _ _ _  hf
    replace hf := (if_neg c412).symm.trans hf
    by_cases c435 : (x19 &&& (63 : Int32)) = (27 : Int32)
    · replace hf := (if_pos c435).symm.trans hf
      refine g_tabIn (pc := 32) 999 (27 : Int32) d_QuotaLawsLaw_law_32 c435 (by decide) (by decide) rfl (by decide) ?_
      refine g_aload_n (pc := 999) 1 d_QuotaLawsLaw_law_999 rfl rfl ?_
      refine g_aload_n (pc := 1000) 0 d_QuotaLawsLaw_law_1000 rfl rfl ?_
      refine g_iload_n (pc := 1001) 3 d_QuotaLawsLaw_law_1001 rfl rfl ?_
      refine g_iconst (pc := 1002) (1 : Int32) d_QuotaLawsLaw_law_1002 (by decide) ?_
      refine g_iadd (pc := 1003) d_QuotaLawsLaw_law_1003 ?_
      obtain ⟨x436, e437, hf⟩ := bd1_e hf
      refine g_sld (pc := 1004) d_QuotaLawsLaw_law_1004 e437 ?_
      obtain ⟨u439, e438, hf⟩ := bd1_e hf
      obtain ⟨x442, h440, e441, hf⟩ := bd2_e hf
      refine g_callV (pc := 1005) (ci := 0) [.int x436] (site_of si_Q_forget (by decide) (by decide)) wd_776 wd_777 wd_778 d_QuotaLawsLaw_law_1005 rfl e438 (Nat.le_of_ble_eq_true rfl) (fun z => absurd z (by decide)) (fun z => absurd z (by decide)) (fun z => absurd z (by decide)) (c_Q_forget e441) rfl ?_
      refine g_st [.int x442] rfl ?_
      refine g_pop (pc := 1008) d_QuotaLawsLaw_law_1008 rfl ?_
      refine g_aload_n (pc := 1009) 2 d_QuotaLawsLaw_law_1009 rfl rfl ?_
      refine g_aload_n (pc := 1010) 0 d_QuotaLawsLaw_law_1010 rfl rfl ?_
      refine g_iload_n (pc := 1011) 3 d_QuotaLawsLaw_law_1011 rfl rfl ?_
      refine g_iconst (pc := 1012) (1 : Int32) d_QuotaLawsLaw_law_1012 (by decide) ?_
      refine g_iadd (pc := 1013) d_QuotaLawsLaw_law_1013 ?_
      obtain ⟨x443, e444, hf⟩ := bd1_e hf
      refine g_sld (pc := 1014) d_QuotaLawsLaw_law_1014 e444 ?_
      obtain ⟨u446, e445, hf⟩ := bd1_e hf
      obtain ⟨x449, h447, e448, hf⟩ := bd2_e hf
      refine g_callV (pc := 1015) (ci := 8) [.int x443] (site_of si_M_forget (by decide) (by decide)) wd_1333 wd_1334 wd_1335 d_QuotaLawsLaw_law_1015 rfl e445 (Nat.le_of_ble_eq_true rfl) (fun z => absurd z (by decide)) (fun z => absurd z (by decide)) (fun z => absurd z (by decide)) (c_M_forget e448) rfl ?_
      refine g_st [.int x449] rfl ?_
      refine g_pop (pc := 1018) d_QuotaLawsLaw_law_1018 rfl ?_
      refine g_goto (pc := 1019) 1342 d_QuotaLawsLaw_law_1019 (by decide) ?_
      refine g_lv [0, 1, 2, 3] rfl ?_
      exact t_QuotaLawsLaw_law_1342 rec18 hrec18 _ _ _ _ _ _  hf
    replace hf := (if_neg c435).symm.trans hf
    by_cases c450 : (x19 &&& (63 : Int32)) = (28 : Int32)
    · replace hf := (if_pos c450).symm.trans hf
      refine g_tabIn (pc := 32) 1022 (28 : Int32) d_QuotaLawsLaw_law_32 c450 (by decide) (by decide) rfl (by decide) ?_
      refine g_aload_n (pc := 1022) 1 d_QuotaLawsLaw_law_1022 rfl rfl ?_
      obtain ⟨u452, e451, hf⟩ := bd1_e hf
      obtain ⟨x455, h453, e454, hf⟩ := bd2_e hf
      refine g_callV (pc := 1023) (ci := 0) [] (site_of si_Q_books (by decide) (by decide)) wd_780 wd_781 wd_782 d_QuotaLawsLaw_law_1023 rfl e451 (Nat.le_of_ble_eq_true rfl) (fun z => absurd z (by decide)) (fun z => absurd z (by decide)) (fun z => absurd z (by decide)) (c_Q_books e454) rfl ?_
      refine g_st [.long x455] rfl ?_
      refine g_pop2 (pc := 1026) d_QuotaLawsLaw_law_1026 rfl ?_
      refine g_aload_n (pc := 1027) 2 d_QuotaLawsLaw_law_1027 rfl rfl ?_
      obtain ⟨u457, e456, hf⟩ := bd1_e hf
      obtain ⟨x460, h458, e459, hf⟩ := bd2_e hf
      refine g_callV (pc := 1028) (ci := 8) [] (site_of si_M_books (by decide) (by decide)) wd_1337 wd_1338 wd_1339 d_QuotaLawsLaw_law_1028 rfl e456 (Nat.le_of_ble_eq_true rfl) (fun z => absurd z (by decide)) (fun z => absurd z (by decide)) (fun z => absurd z (by decide)) (c_M_books e459) rfl ?_
      refine g_st [.long x460] rfl ?_
      refine g_pop2 (pc := 1031) d_QuotaLawsLaw_law_1031 rfl ?_
      refine g_goto (pc := 1032) 1342 d_QuotaLawsLaw_law_1032 (by decide) ?_
      refine g_lv [0, 1, 2, 3] rfl ?_
      exact t_QuotaLawsLaw_law_1342 rec18 hrec18 _ _ _ _ _ _  hf
    replace hf := (if_neg c450).symm.trans hf
    by_cases c461 : (x19 &&& (63 : Int32)) = (29 : Int32)
    · replace hf := (if_pos c461).symm.trans hf
      refine g_tabIn (pc := 32) 1035 (29 : Int32) d_QuotaLawsLaw_law_32 c461 (by decide) (by decide) rfl (by decide) ?_
      refine g_aload_n (pc := 1035) 1 d_QuotaLawsLaw_law_1035 rfl rfl ?_
      refine g_aload_n (pc := 1036) 0 d_QuotaLawsLaw_law_1036 rfl rfl ?_
      refine g_iload_n (pc := 1037) 3 d_QuotaLawsLaw_law_1037 rfl rfl ?_
      refine g_iconst (pc := 1038) (1 : Int32) d_QuotaLawsLaw_law_1038 (by decide) ?_
      refine g_iadd (pc := 1039) d_QuotaLawsLaw_law_1039 ?_
      obtain ⟨x462, e463, hf⟩ := bd1_e hf
      refine g_sld (pc := 1040) d_QuotaLawsLaw_law_1040 e463 ?_
      refine g_aload_n (pc := 1041) 0 d_QuotaLawsLaw_law_1041 rfl rfl ?_
      refine g_iload_n (pc := 1042) 3 d_QuotaLawsLaw_law_1042 rfl rfl ?_
      refine g_iconst (pc := 1043) (2 : Int32) d_QuotaLawsLaw_law_1043 (by decide) ?_
      refine g_iadd (pc := 1044) d_QuotaLawsLaw_law_1044 ?_
      obtain ⟨x464, e465, hf⟩ := bd1_e hf
      refine g_sld (pc := 1045) d_QuotaLawsLaw_law_1045 e465 ?_
      refine g_aload_n (pc := 1046) 0 d_QuotaLawsLaw_law_1046 rfl rfl ?_
      refine g_iload_n (pc := 1047) 3 d_QuotaLawsLaw_law_1047 rfl rfl ?_
      refine g_iconst (pc := 1048) (3 : Int32) d_QuotaLawsLaw_law_1048 (by decide) ?_
      refine g_iadd (pc := 1049) d_QuotaLawsLaw_law_1049 ?_
      obtain ⟨x466, e467, hf⟩ := bd1_e hf
      refine g_sld (pc := 1050) d_QuotaLawsLaw_law_1050 e467 ?_
      obtain ⟨u469, e468, hf⟩ := bd1_e hf
      obtain ⟨x472, h470, e471, hf⟩ := bd2_e hf
      refine g_callV (pc := 1051) (ci := 0) [.int x462, .int x464, .int x466] (site_of si_Q_entry (by decide) (by decide)) wd_829 wd_830 wd_831 d_QuotaLawsLaw_law_1051 rfl e468 (Nat.le_of_ble_eq_true rfl) (fun z => absurd z (by decide)) (fun z => absurd z (by decide)) (fun z => absurd z (by decide)) (c_Q_entry e471) rfl ?_
      refine g_st [.int x472] rfl ?_
      refine g_pop (pc := 1054) d_QuotaLawsLaw_law_1054 rfl ?_
      refine g_aload_n (pc := 1055) 2 d_QuotaLawsLaw_law_1055 rfl rfl ?_
      refine g_aload_n (pc := 1056) 0 d_QuotaLawsLaw_law_1056 rfl rfl ?_
      refine g_iload_n (pc := 1057) 3 d_QuotaLawsLaw_law_1057 rfl rfl ?_
      refine g_iconst (pc := 1058) (1 : Int32) d_QuotaLawsLaw_law_1058 (by decide) ?_
      refine g_iadd (pc := 1059) d_QuotaLawsLaw_law_1059 ?_
      obtain ⟨x473, e474, hf⟩ := bd1_e hf
      refine g_sld (pc := 1060) d_QuotaLawsLaw_law_1060 e474 ?_
      refine g_aload_n (pc := 1061) 0 d_QuotaLawsLaw_law_1061 rfl rfl ?_
      refine g_iload_n (pc := 1062) 3 d_QuotaLawsLaw_law_1062 rfl rfl ?_
      refine g_iconst (pc := 1063) (2 : Int32) d_QuotaLawsLaw_law_1063 (by decide) ?_
      refine g_iadd (pc := 1064) d_QuotaLawsLaw_law_1064 ?_
      obtain ⟨x475, e476, hf⟩ := bd1_e hf
      refine g_sld (pc := 1065) d_QuotaLawsLaw_law_1065 e476 ?_
      refine g_aload_n (pc := 1066) 0 d_QuotaLawsLaw_law_1066 rfl rfl ?_
      refine g_iload_n (pc := 1067) 3 d_QuotaLawsLaw_law_1067 rfl rfl ?_
      refine g_iconst (pc := 1068) (3 : Int32) d_QuotaLawsLaw_law_1068 (by decide) ?_
      refine g_iadd (pc := 1069) d_QuotaLawsLaw_law_1069 ?_
      obtain ⟨x477, e478, hf⟩ := bd1_e hf
      refine g_sld (pc := 1070) d_QuotaLawsLaw_law_1070 e478 ?_
      obtain ⟨u480, e479, hf⟩ := bd1_e hf
      obtain ⟨x483, h481, e482, hf⟩ := bd2_e hf
      refine g_callV (pc := 1071) (ci := 8) [.int x473, .int x475, .int x477] (site_of si_M_entry (by decide) (by decide)) wd_1369 wd_1370 wd_1371 d_QuotaLawsLaw_law_1071 rfl e479 (Nat.le_of_ble_eq_true rfl) (fun z => absurd z (by decide)) (fun z => absurd z (by decide)) (fun z => absurd z (by decide)) (c_M_entry e482) rfl ?_
      refine g_st [.int x483] rfl ?_
      refine g_pop (pc := 1074) d_QuotaLawsLaw_law_1074 rfl ?_
      refine g_goto (pc := 1075) 1342 d_QuotaLawsLaw_law_1075 (by decide) ?_
      refine g_lv [0, 1, 2, 3] rfl ?_
      exact t_QuotaLawsLaw_law_1342 rec18 hrec18 _ _ _ _ _ _  hf
    replace hf := (if_neg c461).symm.trans hf
    by_cases c484 : (x19 &&& (63 : Int32)) = (30 : Int32)
    · replace hf := (if_pos c484).symm.trans hf
      refine g_tabIn (pc := 32) 1078 (30 : Int32) d_QuotaLawsLaw_law_32 c484 (by decide) (by decide) rfl (by decide) ?_
      refine g_aload_n (pc := 1078) 1 d_QuotaLawsLaw_law_1078 rfl rfl ?_
      refine g_aload_n (pc := 1079) 0 d_QuotaLawsLaw_law_1079 rfl rfl ?_
      refine g_iload_n (pc := 1080) 3 d_QuotaLawsLaw_law_1080 rfl rfl ?_
      refine g_iconst (pc := 1081) (1 : Int32) d_QuotaLawsLaw_law_1081 (by decide) ?_
      refine g_iadd (pc := 1082) d_QuotaLawsLaw_law_1082 ?_
      obtain ⟨x485, e486, hf⟩ := bd1_e hf
      refine g_sld (pc := 1083) d_QuotaLawsLaw_law_1083 e486 ?_
      refine g_aload_n (pc := 1084) 0 d_QuotaLawsLaw_law_1084 rfl rfl ?_
      refine g_iload_n (pc := 1085) 3 d_QuotaLawsLaw_law_1085 rfl rfl ?_
      refine g_iconst (pc := 1086) (2 : Int32) d_QuotaLawsLaw_law_1086 (by decide) ?_
      refine g_iadd (pc := 1087) d_QuotaLawsLaw_law_1087 ?_
      obtain ⟨x487, e488, hf⟩ := bd1_e hf
      refine g_sld (pc := 1088) d_QuotaLawsLaw_law_1088 e488 ?_
      refine g_aload_n (pc := 1089) 0 d_QuotaLawsLaw_law_1089 rfl rfl ?_
      refine g_iload_n (pc := 1090) 3 d_QuotaLawsLaw_law_1090 rfl rfl ?_
      refine g_iconst (pc := 1091) (3 : Int32) d_QuotaLawsLaw_law_1091 (by decide) ?_
      refine g_iadd (pc := 1092) d_QuotaLawsLaw_law_1092 ?_
      obtain ⟨x489, e490, hf⟩ := bd1_e hf
      refine g_sld (pc := 1093) d_QuotaLawsLaw_law_1093 e490 ?_
      obtain ⟨u492, e491, hf⟩ := bd1_e hf
      obtain ⟨x495, h493, e494, hf⟩ := bd2_e hf
      refine g_callV (pc := 1094) (ci := 0) [.int x485, .int x487, .int x489] (site_of si_Q_wild (by decide) (by decide)) wd_838 wd_839 wd_840 d_QuotaLawsLaw_law_1094 rfl e491 (Nat.le_of_ble_eq_true rfl) (fun z => absurd z (by decide)) (fun z => absurd z (by decide)) (fun z => absurd z (by decide)) (c_Q_wild e494) rfl ?_
      refine g_st [.int x495] rfl ?_
      refine g_pop (pc := 1097) d_QuotaLawsLaw_law_1097 rfl ?_
      refine g_aload_n (pc := 1098) 2 d_QuotaLawsLaw_law_1098 rfl rfl ?_
      refine g_aload_n (pc := 1099) 0 d_QuotaLawsLaw_law_1099 rfl rfl ?_
      refine g_iload_n (pc := 1100) 3 d_QuotaLawsLaw_law_1100 rfl rfl ?_
      refine g_iconst (pc := 1101) (1 : Int32) d_QuotaLawsLaw_law_1101 (by decide) ?_
      refine g_iadd (pc := 1102) d_QuotaLawsLaw_law_1102 ?_
      obtain ⟨x496, e497, hf⟩ := bd1_e hf
      refine g_sld (pc := 1103) d_QuotaLawsLaw_law_1103 e497 ?_
      refine g_aload_n (pc := 1104) 0 d_QuotaLawsLaw_law_1104 rfl rfl ?_
      refine g_iload_n (pc := 1105) 3 d_QuotaLawsLaw_law_1105 rfl rfl ?_
      refine g_iconst (pc := 1106) (2 : Int32) d_QuotaLawsLaw_law_1106 (by decide) ?_
      refine g_iadd (pc := 1107) d_QuotaLawsLaw_law_1107 ?_
      obtain ⟨x498, e499, hf⟩ := bd1_e hf
      refine g_sld (pc := 1108) d_QuotaLawsLaw_law_1108 e499 ?_
      refine g_aload_n (pc := 1109) 0 d_QuotaLawsLaw_law_1109 rfl rfl ?_
      refine g_iload_n (pc := 1110) 3 d_QuotaLawsLaw_law_1110 rfl rfl ?_
      refine g_iconst (pc := 1111) (3 : Int32) d_QuotaLawsLaw_law_1111 (by decide) ?_
      refine g_iadd (pc := 1112) d_QuotaLawsLaw_law_1112 ?_
      obtain ⟨x500, e501, hf⟩ := bd1_e hf
      refine g_sld (pc := 1113) d_QuotaLawsLaw_law_1113 e501 ?_
      obtain ⟨u503, e502, hf⟩ := bd1_e hf
      obtain ⟨x506, h504, e505, hf⟩ := bd2_e hf
      refine g_callV (pc := 1114) (ci := 8) [.int x496, .int x498, .int x500] (site_of si_M_wild (by decide) (by decide)) wd_1373 wd_1374 wd_1375 d_QuotaLawsLaw_law_1114 rfl e502 (Nat.le_of_ble_eq_true rfl) (fun z => absurd z (by decide)) (fun z => absurd z (by decide)) (fun z => absurd z (by decide)) (c_M_wild e505) rfl ?_
      refine g_st [.int x506] rfl ?_
      refine g_pop (pc := 1117) d_QuotaLawsLaw_law_1117 rfl ?_
      refine g_goto (pc := 1118) 1342 d_QuotaLawsLaw_law_1118 (by decide) ?_
      refine g_lv [0, 1, 2, 3] rfl ?_
      exact t_QuotaLawsLaw_law_1342 rec18 hrec18 _ _ _ _ _ _  hf
    replace hf := (if_neg c484).symm.trans hf
    by_cases c507 : (x19 &&& (63 : Int32)) = (31 : Int32)
    · replace hf := (if_pos c507).symm.trans hf
      refine g_tabIn (pc := 32) 1121 (31 : Int32) d_QuotaLawsLaw_law_32 c507 (by decide) (by decide) rfl (by decide) ?_
      refine g_aload_n (pc := 1121) 1 d_QuotaLawsLaw_law_1121 rfl rfl ?_
      refine g_aload_n (pc := 1122) 0 d_QuotaLawsLaw_law_1122 rfl rfl ?_
      refine g_iload_n (pc := 1123) 3 d_QuotaLawsLaw_law_1123 rfl rfl ?_
      refine g_iconst (pc := 1124) (1 : Int32) d_QuotaLawsLaw_law_1124 (by decide) ?_
      refine g_iadd (pc := 1125) d_QuotaLawsLaw_law_1125 ?_
      obtain ⟨x508, e509, hf⟩ := bd1_e hf
      refine g_sld (pc := 1126) d_QuotaLawsLaw_law_1126 e509 ?_
      obtain ⟨u511, e510, hf⟩ := bd1_e hf
      obtain ⟨x514, h512, e513, hf⟩ := bd2_e hf
      refine g_callV (pc := 1127) (ci := 0) [.int x508] (site_of si_Q_keep (by decide) (by decide)) wd_854 wd_855 wd_856 d_QuotaLawsLaw_law_1127 rfl e510 (Nat.le_of_ble_eq_true rfl) (fun z => absurd z (by decide)) (fun z => absurd z (by decide)) (fun z => absurd z (by decide)) (c_Q_keep e513) rfl ?_
      refine g_st [.int x514] rfl ?_
      refine g_pop (pc := 1130) d_QuotaLawsLaw_law_1130 rfl ?_
      refine g_aload_n (pc := 1131) 2 d_QuotaLawsLaw_law_1131 rfl rfl ?_
      refine g_aload_n (pc := 1132) 0 d_QuotaLawsLaw_law_1132 rfl rfl ?_
      refine g_iload_n (pc := 1133) 3 d_QuotaLawsLaw_law_1133 rfl rfl ?_
      refine g_iconst (pc := 1134) (1 : Int32) d_QuotaLawsLaw_law_1134 (by decide) ?_
      refine g_iadd (pc := 1135) d_QuotaLawsLaw_law_1135 ?_
      obtain ⟨x515, e516, hf⟩ := bd1_e hf
      refine g_sld (pc := 1136) d_QuotaLawsLaw_law_1136 e516 ?_
      obtain ⟨u518, e517, hf⟩ := bd1_e hf
      obtain ⟨x521, h519, e520, hf⟩ := bd2_e hf
      refine g_callV (pc := 1137) (ci := 8) [.int x515] (site_of si_M_keep (by decide) (by decide)) wd_1380 wd_1381 wd_1382 d_QuotaLawsLaw_law_1137 rfl e517 (Nat.le_of_ble_eq_true rfl) (fun z => absurd z (by decide)) (fun z => absurd z (by decide)) (fun z => absurd z (by decide)) (c_M_keep e520) rfl ?_
      refine g_st [.int x521] rfl ?_
      refine g_pop (pc := 1140) d_QuotaLawsLaw_law_1140 rfl ?_
      refine g_goto (pc := 1141) 1342 d_QuotaLawsLaw_law_1141 (by decide) ?_
      refine g_lv [0, 1, 2, 3] rfl ?_
      exact t_QuotaLawsLaw_law_1342 rec18 hrec18 _ _ _ _ _ _  hf
    replace hf := (if_neg c507).symm.trans hf
    by_cases c522 : (x19 &&& (63 : Int32)) = (32 : Int32)
    · replace hf := (if_pos c522).symm.trans hf
      refine g_tabIn (pc := 32) 1144 (32 : Int32) d_QuotaLawsLaw_law_32 c522 (by decide) (by decide) rfl (by decide) ?_
      refine g_aload_n (pc := 1144) 1 d_QuotaLawsLaw_law_1144 rfl rfl ?_
      refine g_aload_n (pc := 1145) 0 d_QuotaLawsLaw_law_1145 rfl rfl ?_
      refine g_iload_n (pc := 1146) 3 d_QuotaLawsLaw_law_1146 rfl rfl ?_
      refine g_iconst (pc := 1147) (1 : Int32) d_QuotaLawsLaw_law_1147 (by decide) ?_
      refine g_iadd (pc := 1148) d_QuotaLawsLaw_law_1148 ?_
      obtain ⟨x523, e524, hf⟩ := bd1_e hf
      refine g_sld (pc := 1149) d_QuotaLawsLaw_law_1149 e524 ?_
      obtain ⟨u526, e525, hf⟩ := bd1_e hf
      obtain ⟨x529, h527, e528, hf⟩ := bd2_e hf
      refine g_callV (pc := 1150) (ci := 0) [.int x523] (site_of si_Q_back (by decide) (by decide)) wd_858 wd_859 wd_860 d_QuotaLawsLaw_law_1150 rfl e525 (Nat.le_of_ble_eq_true rfl) (fun z => absurd z (by decide)) (fun z => absurd z (by decide)) (fun z => absurd z (by decide)) (c_Q_back e528) rfl ?_
      refine g_st [.int x529] rfl ?_
      refine g_pop (pc := 1153) d_QuotaLawsLaw_law_1153 rfl ?_
      refine g_aload_n (pc := 1154) 2 d_QuotaLawsLaw_law_1154 rfl rfl ?_
      refine g_aload_n (pc := 1155) 0 d_QuotaLawsLaw_law_1155 rfl rfl ?_
      refine g_iload_n (pc := 1156) 3 d_QuotaLawsLaw_law_1156 rfl rfl ?_
      refine g_iconst (pc := 1157) (1 : Int32) d_QuotaLawsLaw_law_1157 (by decide) ?_
      refine g_iadd (pc := 1158) d_QuotaLawsLaw_law_1158 ?_
      obtain ⟨x530, e531, hf⟩ := bd1_e hf
      refine g_sld (pc := 1159) d_QuotaLawsLaw_law_1159 e531 ?_
      obtain ⟨u533, e532, hf⟩ := bd1_e hf
      obtain ⟨x536, h534, e535, hf⟩ := bd2_e hf
      refine g_callV (pc := 1160) (ci := 8) [.int x530] (site_of si_M_back (by decide) (by decide)) wd_1388 wd_1389 wd_1390 d_QuotaLawsLaw_law_1160 rfl e532 (Nat.le_of_ble_eq_true rfl) (fun z => absurd z (by decide)) (fun z => absurd z (by decide)) (fun z => absurd z (by decide)) (c_M_back e535) rfl ?_
      refine g_st [.int x536] rfl ?_
      refine g_pop (pc := 1163) d_QuotaLawsLaw_law_1163 rfl ?_
      refine g_goto (pc := 1164) 1342 d_QuotaLawsLaw_law_1164 (by decide) ?_
      refine g_lv [0, 1, 2, 3] rfl ?_
      exact t_QuotaLawsLaw_law_1342 rec18 hrec18 _ _ _ _ _ _  hf
    replace hf := (if_neg c522).symm.trans hf
    by_cases c537 : (x19 &&& (63 : Int32)) = (33 : Int32)
    · replace hf := (if_pos c537).symm.trans hf
      refine g_tabIn (pc := 32) 1167 (33 : Int32) d_QuotaLawsLaw_law_32 c537 (by decide) (by decide) rfl (by decide) ?_
      refine g_aload_n (pc := 1167) 1 d_QuotaLawsLaw_law_1167 rfl rfl ?_
      refine g_aload_n (pc := 1168) 0 d_QuotaLawsLaw_law_1168 rfl rfl ?_
      refine g_iload_n (pc := 1169) 3 d_QuotaLawsLaw_law_1169 rfl rfl ?_
      refine g_iconst (pc := 1170) (1 : Int32) d_QuotaLawsLaw_law_1170 (by decide) ?_
      refine g_iadd (pc := 1171) d_QuotaLawsLaw_law_1171 ?_
      obtain ⟨x538, e539, hf⟩ := bd1_e hf
      refine g_sld (pc := 1172) d_QuotaLawsLaw_law_1172 e539 ?_
      refine g_aload_n (pc := 1173) 0 d_QuotaLawsLaw_law_1173 rfl rfl ?_
      refine g_iload_n (pc := 1174) 3 d_QuotaLawsLaw_law_1174 rfl rfl ?_
      refine g_iconst (pc := 1175) (2 : Int32) d_QuotaLawsLaw_law_1175 (by decide) ?_
      refine g_iadd (pc := 1176) d_QuotaLawsLaw_law_1176 ?_
      obtain ⟨x540, e541, hf⟩ := bd1_e hf
      refine g_sld (pc := 1177) d_QuotaLawsLaw_law_1177 e541 ?_
      refine g_aload_n (pc := 1178) 0 d_QuotaLawsLaw_law_1178 rfl rfl ?_
      refine g_iload_n (pc := 1179) 3 d_QuotaLawsLaw_law_1179 rfl rfl ?_
      refine g_iconst (pc := 1180) (3 : Int32) d_QuotaLawsLaw_law_1180 (by decide) ?_
      refine g_iadd (pc := 1181) d_QuotaLawsLaw_law_1181 ?_
      obtain ⟨x542, e543, hf⟩ := bd1_e hf
      refine g_sld (pc := 1182) d_QuotaLawsLaw_law_1182 e543 ?_
      obtain ⟨u545, e544, hf⟩ := bd1_e hf
      obtain ⟨x548, h546, e547, hf⟩ := bd2_e hf
      refine g_callV (pc := 1183) (ci := 0) [.int x538, .int x540, .int x542] (site_of si_Q_sheet (by decide) (by decide)) wd_862 wd_863 wd_864 d_QuotaLawsLaw_law_1183 rfl e544 (Nat.le_of_ble_eq_true rfl) (fun z => absurd z (by decide)) (fun z => absurd z (by decide)) (fun z => absurd z (by decide)) (c_Q_sheet e547) rfl ?_
      refine g_st [.int x548] rfl ?_
      refine g_pop (pc := 1186) d_QuotaLawsLaw_law_1186 rfl ?_
      refine g_aload_n (pc := 1187) 2 d_QuotaLawsLaw_law_1187 rfl rfl ?_
      refine g_aload_n (pc := 1188) 0 d_QuotaLawsLaw_law_1188 rfl rfl ?_
      refine g_iload_n (pc := 1189) 3 d_QuotaLawsLaw_law_1189 rfl rfl ?_
      refine g_iconst (pc := 1190) (1 : Int32) d_QuotaLawsLaw_law_1190 (by decide) ?_
      refine g_iadd (pc := 1191) d_QuotaLawsLaw_law_1191 ?_
      obtain ⟨x549, e550, hf⟩ := bd1_e hf
      refine g_sld (pc := 1192) d_QuotaLawsLaw_law_1192 e550 ?_
      refine g_aload_n (pc := 1193) 0 d_QuotaLawsLaw_law_1193 rfl rfl ?_
      refine g_iload_n (pc := 1194) 3 d_QuotaLawsLaw_law_1194 rfl rfl ?_
      refine g_iconst (pc := 1195) (2 : Int32) d_QuotaLawsLaw_law_1195 (by decide) ?_
      refine g_iadd (pc := 1196) d_QuotaLawsLaw_law_1196 ?_
      obtain ⟨x551, e552, hf⟩ := bd1_e hf
      refine g_sld (pc := 1197) d_QuotaLawsLaw_law_1197 e552 ?_
      refine g_aload_n (pc := 1198) 0 d_QuotaLawsLaw_law_1198 rfl rfl ?_
      refine g_iload_n (pc := 1199) 3 d_QuotaLawsLaw_law_1199 rfl rfl ?_
      refine g_iconst (pc := 1200) (3 : Int32) d_QuotaLawsLaw_law_1200 (by decide) ?_
      refine g_iadd (pc := 1201) d_QuotaLawsLaw_law_1201 ?_
      obtain ⟨x553, e554, hf⟩ := bd1_e hf
      refine g_sld (pc := 1202) d_QuotaLawsLaw_law_1202 e554 ?_
      obtain ⟨u556, e555, hf⟩ := bd1_e hf
      obtain ⟨x559, h557, e558, hf⟩ := bd2_e hf
      refine g_callV (pc := 1203) (ci := 8) [.int x549, .int x551, .int x553] (site_of si_M_sheet (by decide) (by decide)) wd_1392 wd_1393 wd_1394 d_QuotaLawsLaw_law_1203 rfl e555 (Nat.le_of_ble_eq_true rfl) (fun z => absurd z (by decide)) (fun z => absurd z (by decide)) (fun z => absurd z (by decide)) (c_M_sheet e558) rfl ?_
      refine g_st [.int x559] rfl ?_
      refine g_pop (pc := 1206) d_QuotaLawsLaw_law_1206 rfl ?_
      refine g_goto (pc := 1207) 1342 d_QuotaLawsLaw_law_1207 (by decide) ?_
      refine g_lv [0, 1, 2, 3] rfl ?_
      exact t_QuotaLawsLaw_law_1342 rec18 hrec18 _ _ _ _ _ _  hf
    replace hf := (if_neg c537).symm.trans hf
    by_cases c560 : (x19 &&& (63 : Int32)) = (34 : Int32)
    · replace hf := (if_pos c560).symm.trans hf
      refine g_tabIn (pc := 32) 1210 (34 : Int32) d_QuotaLawsLaw_law_32 c560 (by decide) (by decide) rfl (by decide) ?_
      refine g_aload_n (pc := 1210) 1 d_QuotaLawsLaw_law_1210 rfl rfl ?_
      refine g_aload_n (pc := 1211) 0 d_QuotaLawsLaw_law_1211 rfl rfl ?_
      refine g_iload_n (pc := 1212) 3 d_QuotaLawsLaw_law_1212 rfl rfl ?_
      refine g_iconst (pc := 1213) (1 : Int32) d_QuotaLawsLaw_law_1213 (by decide) ?_
      refine g_iadd (pc := 1214) d_QuotaLawsLaw_law_1214 ?_
      obtain ⟨x561, e562, hf⟩ := bd1_e hf
      refine g_sld (pc := 1215) d_QuotaLawsLaw_law_1215 e562 ?_
      refine g_aload_n (pc := 1216) 0 d_QuotaLawsLaw_law_1216 rfl rfl ?_
      refine g_iload_n (pc := 1217) 3 d_QuotaLawsLaw_law_1217 rfl rfl ?_
      refine g_iconst (pc := 1218) (2 : Int32) d_QuotaLawsLaw_law_1218 (by decide) ?_
      refine g_iadd (pc := 1219) d_QuotaLawsLaw_law_1219 ?_
      obtain ⟨x563, e564, hf⟩ := bd1_e hf
      refine g_sld (pc := 1220) d_QuotaLawsLaw_law_1220 e564 ?_
      refine g_aload_n (pc := 1221) 0 d_QuotaLawsLaw_law_1221 rfl rfl ?_
      refine g_iload_n (pc := 1222) 3 d_QuotaLawsLaw_law_1222 rfl rfl ?_
      refine g_iconst (pc := 1223) (3 : Int32) d_QuotaLawsLaw_law_1223 (by decide) ?_
      refine g_iadd (pc := 1224) d_QuotaLawsLaw_law_1224 ?_
      obtain ⟨x565, e566, hf⟩ := bd1_e hf
      refine g_sld (pc := 1225) d_QuotaLawsLaw_law_1225 e566 ?_
      obtain ⟨u568, e567, hf⟩ := bd1_e hf
      obtain ⟨x571, h569, e570, hf⟩ := bd2_e hf
      refine g_callV (pc := 1226) (ci := 0) [.int x561, .int x563, .int x565] (site_of si_Q_lay (by decide) (by decide)) wd_871 wd_872 wd_873 d_QuotaLawsLaw_law_1226 rfl e567 (Nat.le_of_ble_eq_true rfl) (fun z => absurd z (by decide)) (fun z => absurd z (by decide)) (fun z => absurd z (by decide)) (c_Q_lay e570) rfl ?_
      refine g_st [.int x571] rfl ?_
      refine g_pop (pc := 1229) d_QuotaLawsLaw_law_1229 rfl ?_
      refine g_aload_n (pc := 1230) 2 d_QuotaLawsLaw_law_1230 rfl rfl ?_
      refine g_aload_n (pc := 1231) 0 d_QuotaLawsLaw_law_1231 rfl rfl ?_
      refine g_iload_n (pc := 1232) 3 d_QuotaLawsLaw_law_1232 rfl rfl ?_
      refine g_iconst (pc := 1233) (1 : Int32) d_QuotaLawsLaw_law_1233 (by decide) ?_
      refine g_iadd (pc := 1234) d_QuotaLawsLaw_law_1234 ?_
      obtain ⟨x572, e573, hf⟩ := bd1_e hf
      refine g_sld (pc := 1235) d_QuotaLawsLaw_law_1235 e573 ?_
      refine g_aload_n (pc := 1236) 0 d_QuotaLawsLaw_law_1236 rfl rfl ?_
      refine g_iload_n (pc := 1237) 3 d_QuotaLawsLaw_law_1237 rfl rfl ?_
      refine g_iconst (pc := 1238) (2 : Int32) d_QuotaLawsLaw_law_1238 (by decide) ?_
      refine g_iadd (pc := 1239) d_QuotaLawsLaw_law_1239 ?_
      obtain ⟨x574, e575, hf⟩ := bd1_e hf
      refine g_sld (pc := 1240) d_QuotaLawsLaw_law_1240 e575 ?_
      refine g_aload_n (pc := 1241) 0 d_QuotaLawsLaw_law_1241 rfl rfl ?_
      refine g_iload_n (pc := 1242) 3 d_QuotaLawsLaw_law_1242 rfl rfl ?_
      refine g_iconst (pc := 1243) (3 : Int32) d_QuotaLawsLaw_law_1243 (by decide) ?_
      refine g_iadd (pc := 1244) d_QuotaLawsLaw_law_1244 ?_
      obtain ⟨x576, e577, hf⟩ := bd1_e hf
      refine g_sld (pc := 1245) d_QuotaLawsLaw_law_1245 e577 ?_
      obtain ⟨u579, e578, hf⟩ := bd1_e hf
      obtain ⟨x582, h580, e581, hf⟩ := bd2_e hf
      refine g_callV (pc := 1246) (ci := 8) [.int x572, .int x574, .int x576] (site_of si_M_lay (by decide) (by decide)) wd_1399 wd_1400 wd_1401 d_QuotaLawsLaw_law_1246 rfl e578 (Nat.le_of_ble_eq_true rfl) (fun z => absurd z (by decide)) (fun z => absurd z (by decide)) (fun z => absurd z (by decide)) (c_M_lay e581) rfl ?_
      refine g_st [.int x582] rfl ?_
      refine g_pop (pc := 1249) d_QuotaLawsLaw_law_1249 rfl ?_
      refine g_goto (pc := 1250) 1342 d_QuotaLawsLaw_law_1250 (by decide) ?_
      refine g_lv [0, 1, 2, 3] rfl ?_
      exact t_QuotaLawsLaw_law_1342 rec18 hrec18 _ _ _ _ _ _  hf
    replace hf := (if_neg c560).symm.trans hf
    by_cases c583 : (x19 &&& (63 : Int32)) = (35 : Int32)
    · replace hf := (if_pos c583).symm.trans hf
      refine g_tabIn (pc := 32) 1253 (35 : Int32) d_QuotaLawsLaw_law_32 c583 (by decide) (by decide) rfl (by decide) ?_
      refine g_aload_n (pc := 1253) 1 d_QuotaLawsLaw_law_1253 rfl rfl ?_
      refine g_aload_n (pc := 1254) 0 d_QuotaLawsLaw_law_1254 rfl rfl ?_
      refine g_iload_n (pc := 1255) 3 d_QuotaLawsLaw_law_1255 rfl rfl ?_
      refine g_iconst (pc := 1256) (1 : Int32) d_QuotaLawsLaw_law_1256 (by decide) ?_
      refine g_iadd (pc := 1257) d_QuotaLawsLaw_law_1257 ?_
      obtain ⟨x584, e585, hf⟩ := bd1_e hf
      refine g_sld (pc := 1258) d_QuotaLawsLaw_law_1258 e585 ?_
      refine g_aload_n (pc := 1259) 0 d_QuotaLawsLaw_law_1259 rfl rfl ?_
      refine g_iload_n (pc := 1260) 3 d_QuotaLawsLaw_law_1260 rfl rfl ?_
      refine g_iconst (pc := 1261) (2 : Int32) d_QuotaLawsLaw_law_1261 (by decide) ?_
      refine g_iadd (pc := 1262) d_QuotaLawsLaw_law_1262 ?_
      obtain ⟨x586, e587, hf⟩ := bd1_e hf
      refine g_sld (pc := 1263) d_QuotaLawsLaw_law_1263 e587 ?_
      refine g_aload_n (pc := 1264) 0 d_QuotaLawsLaw_law_1264 rfl rfl ?_
      refine g_iload_n (pc := 1265) 3 d_QuotaLawsLaw_law_1265 rfl rfl ?_
      refine g_iconst (pc := 1266) (3 : Int32) d_QuotaLawsLaw_law_1266 (by decide) ?_
      refine g_iadd (pc := 1267) d_QuotaLawsLaw_law_1267 ?_
      obtain ⟨x588, e589, hf⟩ := bd1_e hf
      refine g_sld (pc := 1268) d_QuotaLawsLaw_law_1268 e589 ?_
      refine g_aload_n (pc := 1269) 0 d_QuotaLawsLaw_law_1269 rfl rfl ?_
      refine g_iload_n (pc := 1270) 3 d_QuotaLawsLaw_law_1270 rfl rfl ?_
      refine g_iconst (pc := 1271) (4 : Int32) d_QuotaLawsLaw_law_1271 (by decide) ?_
      refine g_iadd (pc := 1272) d_QuotaLawsLaw_law_1272 ?_
      obtain ⟨x590, e591, hf⟩ := bd1_e hf
      refine g_sld (pc := 1273) d_QuotaLawsLaw_law_1273 e591 ?_
      obtain ⟨u593, e592, hf⟩ := bd1_e hf
      obtain ⟨x596, h594, e595, hf⟩ := bd2_e hf
      refine g_callV (pc := 1274) (ci := 0) [.int x584, .int x586, .int x588, .int x590] (site_of si_Q_read (by decide) (by decide)) wd_883 wd_884 wd_885 d_QuotaLawsLaw_law_1274 rfl e592 (Nat.le_of_ble_eq_true rfl) (fun z => absurd z (by decide)) (fun z => absurd z (by decide)) (fun z => absurd z (by decide)) (c_Q_read e595) rfl ?_
      refine g_st [.int x596] rfl ?_
      refine g_pop (pc := 1277) d_QuotaLawsLaw_law_1277 rfl ?_
      refine g_aload_n (pc := 1278) 2 d_QuotaLawsLaw_law_1278 rfl rfl ?_
      refine g_aload_n (pc := 1279) 0 d_QuotaLawsLaw_law_1279 rfl rfl ?_
      refine g_iload_n (pc := 1280) 3 d_QuotaLawsLaw_law_1280 rfl rfl ?_
      refine g_iconst (pc := 1281) (1 : Int32) d_QuotaLawsLaw_law_1281 (by decide) ?_
      refine g_iadd (pc := 1282) d_QuotaLawsLaw_law_1282 ?_
      obtain ⟨x597, e598, hf⟩ := bd1_e hf
      refine g_sld (pc := 1283) d_QuotaLawsLaw_law_1283 e598 ?_
      refine g_aload_n (pc := 1284) 0 d_QuotaLawsLaw_law_1284 rfl rfl ?_
      refine g_iload_n (pc := 1285) 3 d_QuotaLawsLaw_law_1285 rfl rfl ?_
      refine g_iconst (pc := 1286) (2 : Int32) d_QuotaLawsLaw_law_1286 (by decide) ?_
      refine g_iadd (pc := 1287) d_QuotaLawsLaw_law_1287 ?_
      obtain ⟨x599, e600, hf⟩ := bd1_e hf
      refine g_sld (pc := 1288) d_QuotaLawsLaw_law_1288 e600 ?_
      refine g_aload_n (pc := 1289) 0 d_QuotaLawsLaw_law_1289 rfl rfl ?_
      refine g_iload_n (pc := 1290) 3 d_QuotaLawsLaw_law_1290 rfl rfl ?_
      refine g_iconst (pc := 1291) (3 : Int32) d_QuotaLawsLaw_law_1291 (by decide) ?_
      refine g_iadd (pc := 1292) d_QuotaLawsLaw_law_1292 ?_
      obtain ⟨x601, e602, hf⟩ := bd1_e hf
      refine g_sld (pc := 1293) d_QuotaLawsLaw_law_1293 e602 ?_
      refine g_aload_n (pc := 1294) 0 d_QuotaLawsLaw_law_1294 rfl rfl ?_
      refine g_iload_n (pc := 1295) 3 d_QuotaLawsLaw_law_1295 rfl rfl ?_
      refine g_iconst (pc := 1296) (4 : Int32) d_QuotaLawsLaw_law_1296 (by decide) ?_
      refine g_iadd (pc := 1297) d_QuotaLawsLaw_law_1297 ?_
      obtain ⟨x603, e604, hf⟩ := bd1_e hf
      refine g_sld (pc := 1298) d_QuotaLawsLaw_law_1298 e604 ?_
      obtain ⟨u606, e605, hf⟩ := bd1_e hf
      obtain ⟨x609, h607, e608, hf⟩ := bd2_e hf
      refine g_callV (pc := 1299) (ci := 8) [.int x597, .int x599, .int x601, .int x603] (site_of si_M_read (by decide) (by decide)) wd_1403 wd_1404 wd_1405 d_QuotaLawsLaw_law_1299 rfl e605 (Nat.le_of_ble_eq_true rfl) (fun z => absurd z (by decide)) (fun z => absurd z (by decide)) (fun z => absurd z (by decide)) (c_M_read e608) rfl ?_
      refine g_st [.int x609] rfl ?_
      refine g_pop (pc := 1302) d_QuotaLawsLaw_law_1302 rfl ?_
      refine g_goto (pc := 1303) 1342 d_QuotaLawsLaw_law_1303 (by decide) ?_
      refine g_lv [0, 1, 2, 3] rfl ?_
      exact t_QuotaLawsLaw_law_1342 rec18 hrec18 _ _ _ _ _ _  hf
    replace hf := (if_neg c583).symm.trans hf
    by_cases c610 : (x19 &&& (63 : Int32)) = (36 : Int32)
    · replace hf := (if_pos c610).symm.trans hf
      refine g_tabIn (pc := 32) 1306 (36 : Int32) d_QuotaLawsLaw_law_32 c610 (by decide) (by decide) rfl (by decide) ?_
      refine g_aload_n (pc := 1306) 1 d_QuotaLawsLaw_law_1306 rfl rfl ?_
      obtain ⟨u612, e611, hf⟩ := bd1_e hf
      obtain ⟨x615, h613, e614, hf⟩ := bd2_e hf
      refine g_callV (pc := 1307) (ci := 0) [] (site_of si_Q_torn (by decide) (by decide)) wd_900 wd_901 wd_902 d_QuotaLawsLaw_law_1307 rfl e611 (Nat.le_of_ble_eq_true rfl) (fun z => absurd z (by decide)) (fun z => absurd z (by decide)) (fun z => absurd z (by decide)) (c_Q_torn e614) rfl ?_
      refine g_st [.int x615] rfl ?_
      refine g_pop (pc := 1310) d_QuotaLawsLaw_law_1310 rfl ?_
      refine g_aload_n (pc := 1311) 2 d_QuotaLawsLaw_law_1311 rfl rfl ?_
      obtain ⟨u617, e616, hf⟩ := bd1_e hf
      obtain ⟨x620, h618, e619, hf⟩ := bd2_e hf
      refine g_callV (pc := 1312) (ci := 8) [] (site_of si_M_torn (by decide) (by decide)) wd_1407 wd_1408 wd_1409 d_QuotaLawsLaw_law_1312 rfl e616 (Nat.le_of_ble_eq_true rfl) (fun z => absurd z (by decide)) (fun z => absurd z (by decide)) (fun z => absurd z (by decide)) (c_M_torn e619) rfl ?_
      refine g_st [.int x620] rfl ?_
      refine g_pop (pc := 1315) d_QuotaLawsLaw_law_1315 rfl ?_
      refine g_goto (pc := 1316) 1342 d_QuotaLawsLaw_law_1316 (by decide) ?_
      refine g_lv [0, 1, 2, 3] rfl ?_
      exact t_QuotaLawsLaw_law_1342 rec18 hrec18 _ _ _ _ _ _  hf
    replace hf := (if_neg c610).symm.trans hf
    by_cases c621 : (x19 &&& (63 : Int32)) = (37 : Int32)
    · replace hf := (if_pos c621).symm.trans hf
      refine g_tabIn (pc := 32) 1319 (37 : Int32) d_QuotaLawsLaw_law_32 c621 (by decide) (by decide) rfl (by decide) ?_
      refine g_aload_n (pc := 1319) 1 d_QuotaLawsLaw_law_1319 rfl rfl ?_
      refine g_aload_n (pc := 1320) 0 d_QuotaLawsLaw_law_1320 rfl rfl ?_
      refine g_iload_n (pc := 1321) 3 d_QuotaLawsLaw_law_1321 rfl rfl ?_
      refine g_iconst (pc := 1322) (1 : Int32) d_QuotaLawsLaw_law_1322 (by decide) ?_
      refine g_iadd (pc := 1323) d_QuotaLawsLaw_law_1323 ?_
      obtain ⟨x622, e623, hf⟩ := bd1_e hf
      refine g_sld (pc := 1324) d_QuotaLawsLaw_law_1324 e623 ?_
      obtain ⟨u625, e624, hf⟩ := bd1_e hf
      obtain ⟨x628, h626, e627, hf⟩ := bd2_e hf
      refine g_callV (pc := 1325) (ci := 0) [.int x622] (site_of si_Q_count (by decide) (by decide)) wd_904 wd_905 wd_906 d_QuotaLawsLaw_law_1325 rfl e624 (Nat.le_of_ble_eq_true rfl) (fun z => absurd z (by decide)) (fun z => absurd z (by decide)) (fun z => absurd z (by decide)) (c_Q_count e627) rfl ?_
      refine g_st [.int x628] rfl ?_
      refine g_pop (pc := 1328) d_QuotaLawsLaw_law_1328 rfl ?_
      refine g_aload_n (pc := 1329) 2 d_QuotaLawsLaw_law_1329 rfl rfl ?_
      refine g_aload_n (pc := 1330) 0 d_QuotaLawsLaw_law_1330 rfl rfl ?_
      refine g_iload_n (pc := 1331) 3 d_QuotaLawsLaw_law_1331 rfl rfl ?_
      refine g_iconst (pc := 1332) (1 : Int32) d_QuotaLawsLaw_law_1332 (by decide) ?_
      refine g_iadd (pc := 1333) d_QuotaLawsLaw_law_1333 ?_
      obtain ⟨x629, e630, hf⟩ := bd1_e hf
      refine g_sld (pc := 1334) d_QuotaLawsLaw_law_1334 e630 ?_
      obtain ⟨u632, e631, hf⟩ := bd1_e hf
      obtain ⟨x635, h633, e634, hf⟩ := bd2_e hf
      refine g_callV (pc := 1335) (ci := 8) [.int x629] (site_of si_M_count (by decide) (by decide)) wd_1411 wd_1412 wd_1413 d_QuotaLawsLaw_law_1335 rfl e631 (Nat.le_of_ble_eq_true rfl) (fun z => absurd z (by decide)) (fun z => absurd z (by decide)) (fun z => absurd z (by decide)) (c_M_count e634) rfl ?_
      refine g_st [.int x635] rfl ?_
      refine g_pop (pc := 1338) d_QuotaLawsLaw_law_1338 rfl ?_
      refine g_goto (pc := 1339) 1342 d_QuotaLawsLaw_law_1339 (by decide) ?_
      refine g_lv [0, 1, 2, 3] rfl ?_
      exact t_QuotaLawsLaw_law_1342 rec18 hrec18 _ _ _ _ _ _  hf
    replace hf := (if_neg c621).symm.trans hf
    refine g_tabOut (pc := 32) 1342 38 d_QuotaLawsLaw_law_32 (by decide) (fun i hi => ?_) (by decide) ?_
    · rcases (show i = 0 ∨ i = 1 ∨ i = 2 ∨ i = 3 ∨ i = 4 ∨ i = 5 ∨ i = 6 ∨ i = 7 ∨ i = 8 ∨ i = 9 ∨ i = 10 ∨ i = 11 ∨ i = 12 ∨ i = 13 ∨ i = 14 ∨ i = 15 ∨ i = 16 ∨ i = 17 ∨ i = 18 ∨ i = 19 ∨ i = 20 ∨ i = 21 ∨ i = 22 ∨ i = 23 ∨ i = 24 ∨ i = 25 ∨ i = 26 ∨ i = 27 ∨ i = 28 ∨ i = 29 ∨ i = 30 ∨ i = 31 ∨ i = 32 ∨ i = 33 ∨ i = 34 ∨ i = 35 ∨ i = 36 ∨ i = 37 by omega) with rfl | rfl | rfl | rfl | rfl | rfl | rfl | rfl | rfl | rfl | rfl | rfl | rfl | rfl | rfl | rfl | rfl | rfl | rfl | rfl | rfl | rfl | rfl | rfl | rfl | rfl | rfl | rfl | rfl | rfl | rfl | rfl | rfl | rfl | rfl | rfl | rfl | rfl
      · exact c21
      · exact c36
      · exact c51
      · exact c62
      · exact c73
      · exact c88
      · exact c107
      · exact c126
      · exact c145
      · exact c164
      · exact c183
      · exact c189
      · exact c208
      · exact c216
      · exact c224
      · exact c243
      · exact c258
      · exact c277
      · exact c288
      · exact c299
      · exact c314
      · exact c329
      · exact c344
      · exact c359
      · exact c378
      · exact c393
      · exact c412
      · exact c435
      · exact c450
      · exact c461
      · exact c484
      · exact c507
      · exact c522
      · exact c537
      · exact c560
      · exact c583
      · exact c610
      · exact c621
    refine g_lv [0, 1, 2, 3] rfl ?_
    exact t_QuotaLawsLaw_law_1342 rec18 hrec18 _ _ _ _ _ _  hf
def f_QuotaLawsLaw_law_18 (sc : Nat × (Nat → Int32))  : Nat → Nat → Nat → Int32 → mH → Option (Int32 × mH)
  | 0 => fun _ _ _ _ => none
  | n + 1 => f_QuotaLawsLaw_law_18b sc  (f_QuotaLawsLaw_law_18 sc  n)
theorem t_QuotaLawsLaw_law_18 {sc : Nat × (Nat → Int32)}  : ∀ (n : Nat) (b1 : Nat) (b2 : Nat) (b3 : Int32) (h : mH) (r : Int32) (h' : mH) (hf : f_QuotaLawsLaw_law_18 sc  n b1 b2 b3 h = some (r, h')), G sc y_QuotaLawsLaw_law code 4 (some .boolean) 8 176 18 [(0, .ref 1300), (1, .ref b1), (2, .ref b2), (3, .int b3)] [] h (some (.int r)) h'
  | 0, _, _, _, _, _, _, hf => by cases hf
  | n + 1, _, _, _, _, _, _, hf => t_QuotaLawsLaw_law_18b  (f_QuotaLawsLaw_law_18 sc  n) (t_QuotaLawsLaw_law_18  n) _ _ _ _ _ _ hf
def f_QuotaLawsLaw_law_0 (sc : Nat × (Nat → Int32))   (h : mH) : Option (Int32 × mH) :=
  bd1 (mkn h 10 (.inr (0, [.null, .null, .null, .null, .null, .null, .null, .null, .null, .int 0]))) fun h1 =>
  grd (h.1 < h1.1) <|
  bd1 (f_Q_new h.1 h1) fun h6 =>
  grd (h6.1 ≤ 1000) <|
  grd (¬ h.1 = h6.1) <|
  bd1 (mkn h6 39 (.inr (8, [.null, .null, .int 0, .int 0, .null, .null, .null, .null, .null, .null, .int 0, .int 0, .null, .null, .null, .null, .null, .int 0, .int 0, .null, .int 0, .int 0, .int 0, .int 0, .int 0, .int 0, .int 0, .null, .null, .null, .null, .null, .null, .null, .null, .null, .null, .null, .int 0]))) fun h10 =>
  grd (h.1 < h10.1 ∧ h6.1 < h10.1) <|
  bd1 (f_M_new h6.1 h10) fun h16 =>
  grd (h16.1 ≤ 1000) <|
  f_QuotaLawsLaw_law_18 sc  FU h.1 h6.1 (0 : Int32) h16
set_option maxRecDepth 20000 in
theorem t_QuotaLawsLaw_law_0 {sc : Nat × (Nat → Int32)}   (h : mH) (r : Int32) (h' : mH) (hf : f_QuotaLawsLaw_law_0 sc   h = some (r, h')) : G sc y_QuotaLawsLaw_law code 4 (some .boolean) 8 176 0 [(0, .ref 1300)] [] h (some (.int r)) h' := by
  unfold f_QuotaLawsLaw_law_0 at hf
  obtain ⟨h1, e2, hf⟩ := bd1_e hf
  obtain ⟨g3, e4⟩ := mkn_e e2
  refine g_new (pc := 0) (ci := 0) rfl [.null, .null, .null, .null, .null, .null, .null, .null, .null, .int 0] ty_Q tyok_Q d_QuotaLawsLaw_law_0 rfl in_Q wd_18 wd_19 wd_1 (by decide) (by simp) g3 (okl_cons (okv_r (by omega)) (okl_nil)) (oks_nil) ?_
  rw [← e4]
  have h1_n : h1.1 = h.1 + 1 := by rw [e4]; rfl
  refine g_dup (pc := 3) d_QuotaLawsLaw_law_3 rfl ?_
  obtain ⟨g5, hf⟩ := grd_e hf
  obtain ⟨h6, e7, hf⟩ := bd1_e hf
  obtain ⟨g8, hf⟩ := grd_e hf
  refine g_callI (pc := 4) [] (site_of si_Q_new (by decide) (by decide)) rfl wd_20 wd_21 d_QuotaLawsLaw_law_4 (Nat.le_of_ble_eq_true rfl) (fun _ => rfl) (fun _ => (okl_cons (okv_r (by omega)) (okl_nil))) (fun _ => (oks_cons (okv_r (by omega)) (oks_nil))) (c_Q_new e7) rfl ?_
  refine g_st [.ref h.1] rfl ?_
  refine g_astore_n (pc := 7) [(1, .ref h.1), (0, .ref 1300)] d_QuotaLawsLaw_law_7 rfl (Nat.le_of_ble_eq_true rfl) rfl ?_
  obtain ⟨g9, hf⟩ := grd_e hf
  obtain ⟨h10, e11, hf⟩ := bd1_e hf
  obtain ⟨g12, e13⟩ := mkn_e e11
  refine g_new (pc := 8) (ci := 8) rfl [.null, .null, .int 0, .int 0, .null, .null, .null, .null, .null, .null, .int 0, .int 0, .null, .null, .null, .null, .null, .int 0, .int 0, .null, .int 0, .int 0, .int 0, .int 0, .int 0, .int 0, .int 0, .null, .null, .null, .null, .null, .null, .null, .null, .null, .null, .null, .int 0] ty_M tyok_M d_QuotaLawsLaw_law_8 rfl in_M wd_924 wd_925 wd_9 (by decide) (by simp) g12 (okl_cons (okv_r (by omega)) (okl_cons (okv_r (by omega)) (okl_nil))) (oks_nil) ?_
  rw [← e13]
  have h10_n : h10.1 = h6.1 + 1 := by rw [e13]; rfl
  refine g_dup (pc := 11) d_QuotaLawsLaw_law_11 rfl ?_
  obtain ⟨⟨g14, g15⟩, hf⟩ := grd_e hf
  obtain ⟨h16, e17, hf⟩ := bd1_e hf
  obtain ⟨g18, hf⟩ := grd_e hf
  refine g_callI (pc := 12) [] (site_of si_M_new (by decide) (by decide)) rfl wd_926 wd_927 d_QuotaLawsLaw_law_12 (Nat.le_of_ble_eq_true rfl) (fun _ => rfl) (fun _ => (okl_cons (okv_r (by omega)) (okl_cons (okv_r (by omega)) (okl_nil)))) (fun _ => (oks_cons (okv_r (by omega)) (oks_nil))) (c_M_new e17) rfl ?_
  refine g_st [.ref h6.1] rfl ?_
  refine g_astore_n (pc := 15) [(2, .ref h6.1), (1, .ref h.1), (0, .ref 1300)] d_QuotaLawsLaw_law_15 rfl (Nat.le_of_ble_eq_true rfl) rfl ?_
  refine g_iconst (pc := 16) (0 : Int32) d_QuotaLawsLaw_law_16 (by decide) ?_
  refine g_istore_n (pc := 17) [(3, .int (0 : Int32)), (2, .ref h6.1), (1, .ref h.1), (0, .ref 1300)] d_QuotaLawsLaw_law_17 rfl (Nat.le_of_ble_eq_true rfl) rfl ?_
  refine g_lv [3, 2, 1, 0] rfl ?_
  exact t_QuotaLawsLaw_law_18  FU _ _ _ _ _ _  hf
def f_QuotaLawsLaw_law (sc : Nat × (Nat → Int32)) (h : mH) : Option (Int32 × mH) := f_QuotaLawsLaw_law_0 sc  h
theorem c_QuotaLawsLaw_law {sc : Nat × (Nat → Int32)}  {h : mH} {r : Int32} {h' : mH} (hf : f_QuotaLawsLaw_law sc  h = some (r, h')) : MM sc y_QuotaLawsLaw_law code 4 (some .boolean) 8 176 [.ref 1300] h (some (.int r)) h' :=
  mm_of_G (by decide) (Nat.le_of_ble_eq_true rfl) (t_QuotaLawsLaw_law_0 _ _ _ hf)
