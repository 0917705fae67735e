/-! 90.first -/
section
/-! the first heap: what the constructors leave -/
def TL (h : mH) : Prop := ∀ k, 126 ≤ k → h.2.2 k = dead
def okc : mCell → Prop
  | .inl (_, n, .inr (.inr (.inr (.inr f)))) => ∀ j, n ≤ j → f j = none
  | _ => True
def RA (h : mH) : Prop := ∀ k, okc (h.2.2 k)
def TB (h h' : mH) : Prop := h.1 ≤ h'.1 ∧ (h'.1 ≤ 126 → TL h → TL h') ∧ (RA h → RA h')
theorem TB.rf (h : mH) : TB h h := ⟨Nat.le_refl _, fun _ t => t, fun r => r⟩
theorem TB.tr {a b c : mH} (x : TB a b) (y : TB b c) : TB a c := ⟨Nat.le_trans x.1 y.1, fun n t => y.2.1 n (x.2.1 (Nat.le_trans y.1 n) t), fun r => y.2.2 (x.2.2 r)⟩
theorem TB.set {h : mH} {o : Nat} {c : mCell} (ho : h.2.2 o ≠ dead) (hc : RA h → okc c) : TB h (mset h o c) := by
  refine ⟨Nat.le_refl _, fun _ t k hk => ?_, fun r k => ?_⟩
  · show va_up h.2.2 o c k = dead
    unfold va_up
    split
    · next e => subst e; exact absurd (t k hk) ho
    · exact t k hk
  · show okc (va_up h.2.2 o c k)
    unfold va_up
    split
    · exact hc r
    · exact r k
theorem mkn_tb {h h' : mH} {s : Nat} {c : mCell} (hc : okc c) (e : mkn h s c = some h') : TB h h' := by
  obtain ⟨-, rfl⟩ := mkn_e e
  refine ⟨Nat.le_succ _, fun n t k hk => ?_, fun r k => ?_⟩
  · have n : h.1 + 1 ≤ 126 := n
    show va_up h.2.2 h.1 c k = dead
    unfold va_up
    rw [if_neg (by omega)]
    exact t k hk
  · show okc (va_up h.2.2 h.1 c k)
    unfold va_up
    split
    · exact hc
    · exact r k
theorem pV_tb {h h' : mH} {o ci k : Nat} {v : Value} (e : pV h o ci k v = some h') : TB h h' := by
  obtain ⟨fs, e1, e2, rfl⟩ := pV_spec e
  refine TB.set ?_ (fun _ => trivial)
  rw [e1]
  intro z
  have : fs = [] := congrArg Prod.snd (Sum.inr.inj z)
  rw [this] at e2
  exact absurd e2 (by simp)
theorem sI_tb {h h' : mH} {t o : Nat} {i x : Int32} (e : sI h t o i x = some h') : TB h h' := by
  obtain ⟨n, f, e1, -, rfl⟩ := sI_spec e
  refine TB.set ?_ (fun _ => trivial)
  rw [e1]
  intro z; cases z
theorem sR_tb {h h' : mH} {t o ci : Nat} {i : Int32} {v : Nat} (e : sR h t o ci i v = some h') : TB h h' := by
  obtain ⟨n, f, fs, e1, -, -, hi, rfl⟩ := sR_spec e
  refine TB.set ?_ (fun r => ?_)
  · rw [e1]
    intro z; cases z
  · have := r o
    rw [e1] at this
    have h0 : ∀ j, n ≤ j → f j = none := this
    show ∀ j, n ≤ j → va_up f i.toNatClampNeg (some v) j = none
    intro j hj
    unfold va_up
    have h3 : ¬ n ≤ i.toNatClampNeg := fun q => hi (Or.inr q)
    rw [if_neg (by omega)]
    exact h0 j hj
def PT (h : mH) (x : Option mH) : Prop := ∀ h', x = some h' → TB h h'
theorem PT.ret {h h2 : mH} (t : TB h h2) : PT h (some h2) := fun h' e => by obtain rfl := ret1 e; exact t
theorem PT.no {h : mH} : PT h none := fun _ e => by cases e
theorem PT.bdp {α : Type} {h : mH} {x : Option α} {f : α → Option mH} (k : ∀ a, PT h (f a)) : PT h (bd1 x f) := fun h' e => by
  obtain ⟨a, -, e2⟩ := bd1_e e
  exact k a h' e2
theorem PT.grd {h : mH} {p : Prop} [Decidable p] {x : Option mH} (k : PT h x) : PT h (grd p x) := fun h' e => k h' (grd_e e).2
theorem PT.op {h h1 : mH} {x : Option mH} {f : mH → Option mH} (t : TB h h1) (s : ∀ h2, x = some h2 → TB h1 h2) (k : ∀ h2, TB h h2 → PT h (f h2)) : PT h (bd1 x f) := fun h' e => by
  obtain ⟨a, e1, e2⟩ := bd1_e e
  exact k a (t.tr (s a e1)) h' e2
theorem PT.tail {h h1 : mH} {x : Option mH} (t : TB h h1) (k : PT h1 x) : PT h x := fun h' e => t.tr (k h' e)
theorem tb_Reader_new {a : Nat} {h h' : mH} (e : f_Reader_new a h = some h') : TB h h' := by
  have t0 := TB.rf h
  refine (?_ : PT h (f_Reader_new a h)) h' e
  unfold f_Reader_new f_Reader_new_0
  repeat' (first
    | exact PT.ret (by assumption)
    | refine PT.grd ?_
    | (refine PT.op (by assumption) (fun _ e => mkn_tb (by first | exact trivial | exact fun _ _ => rfl) e) ?_; intro _ _)
    | (refine PT.op (by assumption) (fun _ e => pV_tb e) ?_; intro _ _)
    | (refine PT.op (by assumption) (fun _ e => sI_tb e) ?_; intro _ _)
    | (refine PT.op (by assumption) (fun _ e => sR_tb e) ?_; intro _ _)
    | (refine PT.bdp ?_; intro _)
    | split)
theorem tb_Sightings_new {a : Nat} {h h' : mH} (e : f_Sightings_new a h = some h') : TB h h' := by
  have t0 := TB.rf h
  refine (?_ : PT h (f_Sightings_new a h)) h' e
  unfold f_Sightings_new f_Sightings_new_0
  repeat' (first
    | exact PT.ret (by assumption)
    | refine PT.grd ?_
    | (refine PT.op (by assumption) (fun _ e => mkn_tb (by first | exact trivial | exact fun _ _ => rfl) e) ?_; intro _ _)
    | (refine PT.op (by assumption) (fun _ e => pV_tb e) ?_; intro _ _)
    | (refine PT.op (by assumption) (fun _ e => sI_tb e) ?_; intro _ _)
    | (refine PT.op (by assumption) (fun _ e => sR_tb e) ?_; intro _ _)
    | (refine PT.op (by assumption) (fun _ e => tb_Reader_new e) ?_; intro _ _)
    | (refine PT.bdp ?_; intro _)
    | split)
theorem tb_Realm_new {a : Nat} {h h' : mH} (e : f_Realm_new a h = some h') : TB h h' := by
  have t0 := TB.rf h
  refine (?_ : PT h (f_Realm_new a h)) h' e
  unfold f_Realm_new f_Realm_new_0
  repeat' (first
    | exact PT.ret (by assumption)
    | refine PT.grd ?_
    | (refine PT.op (by assumption) (fun _ e => mkn_tb (by first | exact trivial | exact fun _ _ => rfl) e) ?_; intro _ _)
    | (refine PT.op (by assumption) (fun _ e => pV_tb e) ?_; intro _ _)
    | (refine PT.op (by assumption) (fun _ e => sI_tb e) ?_; intro _ _)
    | (refine PT.op (by assumption) (fun _ e => sR_tb e) ?_; intro _ _)
    | (refine PT.op (by assumption) (fun _ e => tb_Reader_new e) ?_; intro _ _)
    | (refine PT.op (by assumption) (fun _ e => tb_Sightings_new e) ?_; intro _ _)
    | (refine PT.bdp ?_; intro _)
    | split)
theorem tb_Planner_new {a : Nat} {h h' : mH} (e : f_Planner_new a h = some h') : TB h h' := by
  have t0 := TB.rf h
  refine (?_ : PT h (f_Planner_new a h)) h' e
  unfold f_Planner_new f_Planner_new_0
  repeat' (first
    | exact PT.ret (by assumption)
    | refine PT.grd ?_
    | (refine PT.op (by assumption) (fun _ e => mkn_tb (by first | exact trivial | exact fun _ _ => rfl) e) ?_; intro _ _)
    | (refine PT.op (by assumption) (fun _ e => pV_tb e) ?_; intro _ _)
    | (refine PT.op (by assumption) (fun _ e => sI_tb e) ?_; intro _ _)
    | (refine PT.op (by assumption) (fun _ e => sR_tb e) ?_; intro _ _)
    | (refine PT.op (by assumption) (fun _ e => tb_Reader_new e) ?_; intro _ _)
    | (refine PT.op (by assumption) (fun _ e => tb_Sightings_new e) ?_; intro _ _)
    | (refine PT.op (by assumption) (fun _ e => tb_Realm_new e) ?_; intro _ _)
    | (refine PT.bdp ?_; intro _)
    | split)
theorem tb_Tables_new {a : Nat} {h h' : mH} (e : f_Tables_new a h = some h') : TB h h' := by
  have t0 := TB.rf h
  refine (?_ : PT h (f_Tables_new a h)) h' e
  unfold f_Tables_new f_Tables_new_0
  repeat' (first
    | exact PT.ret (by assumption)
    | refine PT.grd ?_
    | (refine PT.op (by assumption) (fun _ e => mkn_tb (by first | exact trivial | exact fun _ _ => rfl) e) ?_; intro _ _)
    | (refine PT.op (by assumption) (fun _ e => pV_tb e) ?_; intro _ _)
    | (refine PT.op (by assumption) (fun _ e => sI_tb e) ?_; intro _ _)
    | (refine PT.op (by assumption) (fun _ e => sR_tb e) ?_; intro _ _)
    | (refine PT.op (by assumption) (fun _ e => tb_Reader_new e) ?_; intro _ _)
    | (refine PT.op (by assumption) (fun _ e => tb_Sightings_new e) ?_; intro _ _)
    | (refine PT.op (by assumption) (fun _ e => tb_Realm_new e) ?_; intro _ _)
    | (refine PT.op (by assumption) (fun _ e => tb_Planner_new e) ?_; intro _ _)
    | (refine PT.bdp ?_; intro _)
    | split)
theorem tb_Odds_new {a : Nat} {h h' : mH} (e : f_Odds_new a h = some h') : TB h h' := by
  have t0 := TB.rf h
  refine (?_ : PT h (f_Odds_new a h)) h' e
  unfold f_Odds_new f_Odds_new_0
  repeat' (first
    | exact PT.ret (by assumption)
    | refine PT.grd ?_
    | (refine PT.op (by assumption) (fun _ e => mkn_tb (by first | exact trivial | exact fun _ _ => rfl) e) ?_; intro _ _)
    | (refine PT.op (by assumption) (fun _ e => pV_tb e) ?_; intro _ _)
    | (refine PT.op (by assumption) (fun _ e => sI_tb e) ?_; intro _ _)
    | (refine PT.op (by assumption) (fun _ e => sR_tb e) ?_; intro _ _)
    | (refine PT.op (by assumption) (fun _ e => tb_Reader_new e) ?_; intro _ _)
    | (refine PT.op (by assumption) (fun _ e => tb_Sightings_new e) ?_; intro _ _)
    | (refine PT.op (by assumption) (fun _ e => tb_Realm_new e) ?_; intro _ _)
    | (refine PT.op (by assumption) (fun _ e => tb_Planner_new e) ?_; intro _ _)
    | (refine PT.op (by assumption) (fun _ e => tb_Tables_new e) ?_; intro _ _)
    | (refine PT.bdp ?_; intro _)
    | split)
theorem tb_Sheet_new {a : Nat} {h h' : mH} (e : f_Sheet_new a h = some h') : TB h h' := by
  have t0 := TB.rf h
  refine (?_ : PT h (f_Sheet_new a h)) h' e
  unfold f_Sheet_new f_Sheet_new_0
  repeat' (first
    | exact PT.ret (by assumption)
    | refine PT.grd ?_
    | (refine PT.op (by assumption) (fun _ e => mkn_tb (by first | exact trivial | exact fun _ _ => rfl) e) ?_; intro _ _)
    | (refine PT.op (by assumption) (fun _ e => pV_tb e) ?_; intro _ _)
    | (refine PT.op (by assumption) (fun _ e => sI_tb e) ?_; intro _ _)
    | (refine PT.op (by assumption) (fun _ e => sR_tb e) ?_; intro _ _)
    | (refine PT.op (by assumption) (fun _ e => tb_Reader_new e) ?_; intro _ _)
    | (refine PT.op (by assumption) (fun _ e => tb_Sightings_new e) ?_; intro _ _)
    | (refine PT.op (by assumption) (fun _ e => tb_Realm_new e) ?_; intro _ _)
    | (refine PT.op (by assumption) (fun _ e => tb_Planner_new e) ?_; intro _ _)
    | (refine PT.op (by assumption) (fun _ e => tb_Tables_new e) ?_; intro _ _)
    | (refine PT.op (by assumption) (fun _ e => tb_Odds_new e) ?_; intro _ _)
    | (refine PT.bdp ?_; intro _)
    | split)
theorem tb_Q_new_121 : ∀ (n : Nat) (a0 : Nat) (a1 : Int32) (h : mH), PT h (f_Q_new_121 n a0 a1 h)
  | 0, _, _, _ => PT.no
  | n + 1, a0, a1, h => by
    have t0 := TB.rf h
    have ih := tb_Q_new_121 n
    show PT h (f_Q_new_121b (f_Q_new_121 n) a0 a1 h)
    unfold f_Q_new_121b
    repeat' (first
      | exact PT.ret (by assumption)
      | exact PT.tail (by assumption) (ih _ _ _)
      | refine PT.grd ?_
      | (refine PT.op (by assumption) (fun _ e => mkn_tb (by first | exact trivial | exact fun _ _ => rfl) e) ?_; intro _ _)
      | (refine PT.op (by assumption) (fun _ e => pV_tb e) ?_; intro _ _)
      | (refine PT.op (by assumption) (fun _ e => sI_tb e) ?_; intro _ _)
      | (refine PT.op (by assumption) (fun _ e => sR_tb e) ?_; intro _ _)
      | (refine PT.op (by assumption) (fun _ e => tb_Reader_new e) ?_; intro _ _)
      | (refine PT.op (by assumption) (fun _ e => tb_Sightings_new e) ?_; intro _ _)
      | (refine PT.op (by assumption) (fun _ e => tb_Realm_new e) ?_; intro _ _)
      | (refine PT.op (by assumption) (fun _ e => tb_Planner_new e) ?_; intro _ _)
      | (refine PT.op (by assumption) (fun _ e => tb_Tables_new e) ?_; intro _ _)
      | (refine PT.op (by assumption) (fun _ e => tb_Odds_new e) ?_; intro _ _)
      | (refine PT.op (by assumption) (fun _ e => tb_Sheet_new e) ?_; intro _ _)
      | (refine PT.bdp ?_; intro _)
      | split)
theorem tb_Q_new_95 : ∀ (n : Nat) (a0 : Nat) (a1 : Int32) (h : mH), PT h (f_Q_new_95 n a0 a1 h)
  | 0, _, _, _ => PT.no
  | n + 1, a0, a1, h => by
    have t0 := TB.rf h
    have ih := tb_Q_new_95 n
    show PT h (f_Q_new_95b (f_Q_new_95 n) a0 a1 h)
    unfold f_Q_new_95b
    repeat' (first
      | exact PT.ret (by assumption)
      | exact PT.tail (by assumption) (ih _ _ _)
      | exact PT.tail (by assumption) (tb_Q_new_121 _ _ _ _)
      | refine PT.grd ?_
      | (refine PT.op (by assumption) (fun _ e => mkn_tb (by first | exact trivial | exact fun _ _ => rfl) e) ?_; intro _ _)
      | (refine PT.op (by assumption) (fun _ e => pV_tb e) ?_; intro _ _)
      | (refine PT.op (by assumption) (fun _ e => sI_tb e) ?_; intro _ _)
      | (refine PT.op (by assumption) (fun _ e => sR_tb e) ?_; intro _ _)
      | (refine PT.op (by assumption) (fun _ e => tb_Reader_new e) ?_; intro _ _)
      | (refine PT.op (by assumption) (fun _ e => tb_Sightings_new e) ?_; intro _ _)
      | (refine PT.op (by assumption) (fun _ e => tb_Realm_new e) ?_; intro _ _)
      | (refine PT.op (by assumption) (fun _ e => tb_Planner_new e) ?_; intro _ _)
      | (refine PT.op (by assumption) (fun _ e => tb_Tables_new e) ?_; intro _ _)
      | (refine PT.op (by assumption) (fun _ e => tb_Odds_new e) ?_; intro _ _)
      | (refine PT.op (by assumption) (fun _ e => tb_Sheet_new e) ?_; intro _ _)
      | (refine PT.bdp ?_; intro _)
      | split)
theorem tb_Q_new {a : Nat} {h h' : mH} (e : f_Q_new a h = some h') : TB h h' := by
  have t0 := TB.rf h
  refine (?_ : PT h (f_Q_new a h)) h' e
  unfold f_Q_new f_Q_new_0
  repeat' (first
    | exact PT.ret (by assumption)
    | exact PT.tail (by assumption) (tb_Q_new_95 _ _ _ _)
    | refine PT.grd ?_
    | (refine PT.op (by assumption) (fun _ e => mkn_tb (by first | exact trivial | exact fun _ _ => rfl) e) ?_; intro _ _)
    | (refine PT.op (by assumption) (fun _ e => pV_tb e) ?_; intro _ _)
    | (refine PT.op (by assumption) (fun _ e => sI_tb e) ?_; intro _ _)
    | (refine PT.op (by assumption) (fun _ e => sR_tb e) ?_; intro _ _)
    | (refine PT.op (by assumption) (fun _ e => tb_Reader_new e) ?_; intro _ _)
    | (refine PT.op (by assumption) (fun _ e => tb_Sightings_new e) ?_; intro _ _)
    | (refine PT.op (by assumption) (fun _ e => tb_Realm_new e) ?_; intro _ _)
    | (refine PT.op (by assumption) (fun _ e => tb_Planner_new e) ?_; intro _ _)
    | (refine PT.op (by assumption) (fun _ e => tb_Tables_new e) ?_; intro _ _)
    | (refine PT.op (by assumption) (fun _ e => tb_Odds_new e) ?_; intro _ _)
    | (refine PT.op (by assumption) (fun _ e => tb_Sheet_new e) ?_; intro _ _)
    | (refine PT.bdp ?_; intro _)
    | split)
theorem tb_M_firstDraft_23 : ∀ (n : Nat) (a0 : Nat) (a1 : Int32) (h : mH), PT h (f_M_firstDraft_23 n a0 a1 h)
  | 0, _, _, _ => PT.no
  | n + 1, a0, a1, h => by
    have t0 := TB.rf h
    have ih := tb_M_firstDraft_23 n
    show PT h (f_M_firstDraft_23b (f_M_firstDraft_23 n) a0 a1 h)
    unfold f_M_firstDraft_23b
    repeat' (first
      | exact PT.ret (by assumption)
      | exact PT.tail (by assumption) (ih _ _ _)
      | refine PT.grd ?_
      | (refine PT.op (by assumption) (fun _ e => mkn_tb (by first | exact trivial | exact fun _ _ => rfl) e) ?_; intro _ _)
      | (refine PT.op (by assumption) (fun _ e => pV_tb e) ?_; intro _ _)
      | (refine PT.op (by assumption) (fun _ e => sI_tb e) ?_; intro _ _)
      | (refine PT.op (by assumption) (fun _ e => sR_tb e) ?_; intro _ _)
      | (refine PT.op (by assumption) (fun _ e => tb_Reader_new e) ?_; intro _ _)
      | (refine PT.op (by assumption) (fun _ e => tb_Sightings_new e) ?_; intro _ _)
      | (refine PT.op (by assumption) (fun _ e => tb_Realm_new e) ?_; intro _ _)
      | (refine PT.op (by assumption) (fun _ e => tb_Planner_new e) ?_; intro _ _)
      | (refine PT.op (by assumption) (fun _ e => tb_Tables_new e) ?_; intro _ _)
      | (refine PT.op (by assumption) (fun _ e => tb_Odds_new e) ?_; intro _ _)
      | (refine PT.op (by assumption) (fun _ e => tb_Sheet_new e) ?_; intro _ _)
      | (refine PT.op (by assumption) (fun _ e => tb_Q_new e) ?_; intro _ _)
      | (refine PT.bdp ?_; intro _)
      | split)
theorem tb_M_firstDraft_2 : ∀ (n : Nat) (a0 : Nat) (a1 : Int32) (h : mH), PT h (f_M_firstDraft_2 n a0 a1 h)
  | 0, _, _, _ => PT.no
  | n + 1, a0, a1, h => by
    have t0 := TB.rf h
    have ih := tb_M_firstDraft_2 n
    show PT h (f_M_firstDraft_2b (f_M_firstDraft_2 n) a0 a1 h)
    unfold f_M_firstDraft_2b
    repeat' (first
      | exact PT.ret (by assumption)
      | exact PT.tail (by assumption) (ih _ _ _)
      | exact PT.tail (by assumption) (tb_M_firstDraft_23 _ _ _ _)
      | refine PT.grd ?_
      | (refine PT.op (by assumption) (fun _ e => mkn_tb (by first | exact trivial | exact fun _ _ => rfl) e) ?_; intro _ _)
      | (refine PT.op (by assumption) (fun _ e => pV_tb e) ?_; intro _ _)
      | (refine PT.op (by assumption) (fun _ e => sI_tb e) ?_; intro _ _)
      | (refine PT.op (by assumption) (fun _ e => sR_tb e) ?_; intro _ _)
      | (refine PT.op (by assumption) (fun _ e => tb_Reader_new e) ?_; intro _ _)
      | (refine PT.op (by assumption) (fun _ e => tb_Sightings_new e) ?_; intro _ _)
      | (refine PT.op (by assumption) (fun _ e => tb_Realm_new e) ?_; intro _ _)
      | (refine PT.op (by assumption) (fun _ e => tb_Planner_new e) ?_; intro _ _)
      | (refine PT.op (by assumption) (fun _ e => tb_Tables_new e) ?_; intro _ _)
      | (refine PT.op (by assumption) (fun _ e => tb_Odds_new e) ?_; intro _ _)
      | (refine PT.op (by assumption) (fun _ e => tb_Sheet_new e) ?_; intro _ _)
      | (refine PT.op (by assumption) (fun _ e => tb_Q_new e) ?_; intro _ _)
      | (refine PT.bdp ?_; intro _)
      | split)
theorem tb_M_firstDraft {a : Nat} {h h' : mH} (e : f_M_firstDraft a h = some h') : TB h h' := by
  have t0 := TB.rf h
  refine (?_ : PT h (f_M_firstDraft a h)) h' e
  unfold f_M_firstDraft f_M_firstDraft_0
  repeat' (first
    | exact PT.ret (by assumption)
    | exact PT.tail (by assumption) (tb_M_firstDraft_2 _ _ _ _)
    | refine PT.grd ?_
    | (refine PT.op (by assumption) (fun _ e => mkn_tb (by first | exact trivial | exact fun _ _ => rfl) e) ?_; intro _ _)
    | (refine PT.op (by assumption) (fun _ e => pV_tb e) ?_; intro _ _)
    | (refine PT.op (by assumption) (fun _ e => sI_tb e) ?_; intro _ _)
    | (refine PT.op (by assumption) (fun _ e => sR_tb e) ?_; intro _ _)
    | (refine PT.op (by assumption) (fun _ e => tb_Reader_new e) ?_; intro _ _)
    | (refine PT.op (by assumption) (fun _ e => tb_Sightings_new e) ?_; intro _ _)
    | (refine PT.op (by assumption) (fun _ e => tb_Realm_new e) ?_; intro _ _)
    | (refine PT.op (by assumption) (fun _ e => tb_Planner_new e) ?_; intro _ _)
    | (refine PT.op (by assumption) (fun _ e => tb_Tables_new e) ?_; intro _ _)
    | (refine PT.op (by assumption) (fun _ e => tb_Odds_new e) ?_; intro _ _)
    | (refine PT.op (by assumption) (fun _ e => tb_Sheet_new e) ?_; intro _ _)
    | (refine PT.op (by assumption) (fun _ e => tb_Q_new e) ?_; intro _ _)
    | (refine PT.bdp ?_; intro _)
    | split)
theorem tb_M_keepDraft_111 : ∀ (n : Nat) (a0 : Nat) (a1 : Int32) (h : mH), PT h (f_M_keepDraft_111 n a0 a1 h)
  | 0, _, _, _ => PT.no
  | n + 1, a0, a1, h => by
    have t0 := TB.rf h
    have ih := tb_M_keepDraft_111 n
    show PT h (f_M_keepDraft_111b (f_M_keepDraft_111 n) a0 a1 h)
    unfold f_M_keepDraft_111b
    repeat' (first
      | exact PT.ret (by assumption)
      | exact PT.tail (by assumption) (ih _ _ _)
      | refine PT.grd ?_
      | (refine PT.op (by assumption) (fun _ e => mkn_tb (by first | exact trivial | exact fun _ _ => rfl) e) ?_; intro _ _)
      | (refine PT.op (by assumption) (fun _ e => pV_tb e) ?_; intro _ _)
      | (refine PT.op (by assumption) (fun _ e => sI_tb e) ?_; intro _ _)
      | (refine PT.op (by assumption) (fun _ e => sR_tb e) ?_; intro _ _)
      | (refine PT.op (by assumption) (fun _ e => tb_Reader_new e) ?_; intro _ _)
      | (refine PT.op (by assumption) (fun _ e => tb_Sightings_new e) ?_; intro _ _)
      | (refine PT.op (by assumption) (fun _ e => tb_Realm_new e) ?_; intro _ _)
      | (refine PT.op (by assumption) (fun _ e => tb_Planner_new e) ?_; intro _ _)
      | (refine PT.op (by assumption) (fun _ e => tb_Tables_new e) ?_; intro _ _)
      | (refine PT.op (by assumption) (fun _ e => tb_Odds_new e) ?_; intro _ _)
      | (refine PT.op (by assumption) (fun _ e => tb_Sheet_new e) ?_; intro _ _)
      | (refine PT.op (by assumption) (fun _ e => tb_Q_new e) ?_; intro _ _)
      | (refine PT.op (by assumption) (fun _ e => tb_M_firstDraft e) ?_; intro _ _)
      | (refine PT.bdp ?_; intro _)
      | split)
theorem tb_M_keepDraft_59 : ∀ (n : Nat) (a0 : Nat) (a1 : Int32) (h : mH), PT h (f_M_keepDraft_59 n a0 a1 h)
  | 0, _, _, _ => PT.no
  | n + 1, a0, a1, h => by
    have t0 := TB.rf h
    have ih := tb_M_keepDraft_59 n
    show PT h (f_M_keepDraft_59b (f_M_keepDraft_59 n) a0 a1 h)
    unfold f_M_keepDraft_59b
    repeat' (first
      | exact PT.ret (by assumption)
      | exact PT.tail (by assumption) (ih _ _ _)
      | exact PT.tail (by assumption) (tb_M_keepDraft_111 _ _ _ _)
      | refine PT.grd ?_
      | (refine PT.op (by assumption) (fun _ e => mkn_tb (by first | exact trivial | exact fun _ _ => rfl) e) ?_; intro _ _)
      | (refine PT.op (by assumption) (fun _ e => pV_tb e) ?_; intro _ _)
      | (refine PT.op (by assumption) (fun _ e => sI_tb e) ?_; intro _ _)
      | (refine PT.op (by assumption) (fun _ e => sR_tb e) ?_; intro _ _)
      | (refine PT.op (by assumption) (fun _ e => tb_Reader_new e) ?_; intro _ _)
      | (refine PT.op (by assumption) (fun _ e => tb_Sightings_new e) ?_; intro _ _)
      | (refine PT.op (by assumption) (fun _ e => tb_Realm_new e) ?_; intro _ _)
      | (refine PT.op (by assumption) (fun _ e => tb_Planner_new e) ?_; intro _ _)
      | (refine PT.op (by assumption) (fun _ e => tb_Tables_new e) ?_; intro _ _)
      | (refine PT.op (by assumption) (fun _ e => tb_Odds_new e) ?_; intro _ _)
      | (refine PT.op (by assumption) (fun _ e => tb_Sheet_new e) ?_; intro _ _)
      | (refine PT.op (by assumption) (fun _ e => tb_Q_new e) ?_; intro _ _)
      | (refine PT.op (by assumption) (fun _ e => tb_M_firstDraft e) ?_; intro _ _)
      | (refine PT.bdp ?_; intro _)
      | split)
theorem tb_M_keepDraft_2 : ∀ (n : Nat) (a0 : Nat) (a1 : Int32) (h : mH), PT h (f_M_keepDraft_2 n a0 a1 h)
  | 0, _, _, _ => PT.no
  | n + 1, a0, a1, h => by
    have t0 := TB.rf h
    have ih := tb_M_keepDraft_2 n
    show PT h (f_M_keepDraft_2b (f_M_keepDraft_2 n) a0 a1 h)
    unfold f_M_keepDraft_2b
    repeat' (first
      | exact PT.ret (by assumption)
      | exact PT.tail (by assumption) (ih _ _ _)
      | exact PT.tail (by assumption) (tb_M_keepDraft_59 _ _ _ _)
      | refine PT.grd ?_
      | (refine PT.op (by assumption) (fun _ e => mkn_tb (by first | exact trivial | exact fun _ _ => rfl) e) ?_; intro _ _)
      | (refine PT.op (by assumption) (fun _ e => pV_tb e) ?_; intro _ _)
      | (refine PT.op (by assumption) (fun _ e => sI_tb e) ?_; intro _ _)
      | (refine PT.op (by assumption) (fun _ e => sR_tb e) ?_; intro _ _)
      | (refine PT.op (by assumption) (fun _ e => tb_Reader_new e) ?_; intro _ _)
      | (refine PT.op (by assumption) (fun _ e => tb_Sightings_new e) ?_; intro _ _)
      | (refine PT.op (by assumption) (fun _ e => tb_Realm_new e) ?_; intro _ _)
      | (refine PT.op (by assumption) (fun _ e => tb_Planner_new e) ?_; intro _ _)
      | (refine PT.op (by assumption) (fun _ e => tb_Tables_new e) ?_; intro _ _)
      | (refine PT.op (by assumption) (fun _ e => tb_Odds_new e) ?_; intro _ _)
      | (refine PT.op (by assumption) (fun _ e => tb_Sheet_new e) ?_; intro _ _)
      | (refine PT.op (by assumption) (fun _ e => tb_Q_new e) ?_; intro _ _)
      | (refine PT.op (by assumption) (fun _ e => tb_M_firstDraft e) ?_; intro _ _)
      | (refine PT.bdp ?_; intro _)
      | split)
theorem tb_M_keepDraft {a : Nat} {h h' : mH} (e : f_M_keepDraft a h = some h') : TB h h' := by
  have t0 := TB.rf h
  refine (?_ : PT h (f_M_keepDraft a h)) h' e
  unfold f_M_keepDraft f_M_keepDraft_0
  repeat' (first
    | exact PT.ret (by assumption)
    | exact PT.tail (by assumption) (tb_M_keepDraft_2 _ _ _ _)
    | refine PT.grd ?_
    | (refine PT.op (by assumption) (fun _ e => mkn_tb (by first | exact trivial | exact fun _ _ => rfl) e) ?_; intro _ _)
    | (refine PT.op (by assumption) (fun _ e => pV_tb e) ?_; intro _ _)
    | (refine PT.op (by assumption) (fun _ e => sI_tb e) ?_; intro _ _)
    | (refine PT.op (by assumption) (fun _ e => sR_tb e) ?_; intro _ _)
    | (refine PT.op (by assumption) (fun _ e => tb_Reader_new e) ?_; intro _ _)
    | (refine PT.op (by assumption) (fun _ e => tb_Sightings_new e) ?_; intro _ _)
    | (refine PT.op (by assumption) (fun _ e => tb_Realm_new e) ?_; intro _ _)
    | (refine PT.op (by assumption) (fun _ e => tb_Planner_new e) ?_; intro _ _)
    | (refine PT.op (by assumption) (fun _ e => tb_Tables_new e) ?_; intro _ _)
    | (refine PT.op (by assumption) (fun _ e => tb_Odds_new e) ?_; intro _ _)
    | (refine PT.op (by assumption) (fun _ e => tb_Sheet_new e) ?_; intro _ _)
    | (refine PT.op (by assumption) (fun _ e => tb_Q_new e) ?_; intro _ _)
    | (refine PT.op (by assumption) (fun _ e => tb_M_firstDraft e) ?_; intro _ _)
    | (refine PT.bdp ?_; intro _)
    | split)
theorem tb_M_new_196 : ∀ (n : Nat) (a0 : Nat) (a1 : Int32) (h : mH), PT h (f_M_new_196 n a0 a1 h)
  | 0, _, _, _ => PT.no
  | n + 1, a0, a1, h => by
    have t0 := TB.rf h
    have ih := tb_M_new_196 n
    show PT h (f_M_new_196b (f_M_new_196 n) a0 a1 h)
    unfold f_M_new_196b
    repeat' (first
      | exact PT.ret (by assumption)
      | exact PT.tail (by assumption) (ih _ _ _)
      | refine PT.grd ?_
      | (refine PT.op (by assumption) (fun _ e => mkn_tb (by first | exact trivial | exact fun _ _ => rfl) e) ?_; intro _ _)
      | (refine PT.op (by assumption) (fun _ e => pV_tb e) ?_; intro _ _)
      | (refine PT.op (by assumption) (fun _ e => sI_tb e) ?_; intro _ _)
      | (refine PT.op (by assumption) (fun _ e => sR_tb e) ?_; intro _ _)
      | (refine PT.op (by assumption) (fun _ e => tb_Reader_new e) ?_; intro _ _)
      | (refine PT.op (by assumption) (fun _ e => tb_Sightings_new e) ?_; intro _ _)
      | (refine PT.op (by assumption) (fun _ e => tb_Realm_new e) ?_; intro _ _)
      | (refine PT.op (by assumption) (fun _ e => tb_Planner_new e) ?_; intro _ _)
      | (refine PT.op (by assumption) (fun _ e => tb_Tables_new e) ?_; intro _ _)
      | (refine PT.op (by assumption) (fun _ e => tb_Odds_new e) ?_; intro _ _)
      | (refine PT.op (by assumption) (fun _ e => tb_Sheet_new e) ?_; intro _ _)
      | (refine PT.op (by assumption) (fun _ e => tb_Q_new e) ?_; intro _ _)
      | (refine PT.op (by assumption) (fun _ e => tb_M_firstDraft e) ?_; intro _ _)
      | (refine PT.op (by assumption) (fun _ e => tb_M_keepDraft e) ?_; intro _ _)
      | (refine PT.bdp ?_; intro _)
      | split)
theorem tb_M_new {a : Nat} {h h' : mH} (e : f_M_new a h = some h') : TB h h' := by
  have t0 := TB.rf h
  refine (?_ : PT h (f_M_new a h)) h' e
  unfold f_M_new f_M_new_0
  repeat' (first
    | exact PT.ret (by assumption)
    | exact PT.tail (by assumption) (tb_M_new_196 _ _ _ _)
    | refine PT.grd ?_
    | (refine PT.op (by assumption) (fun _ e => mkn_tb (by first | exact trivial | exact fun _ _ => rfl) e) ?_; intro _ _)
    | (refine PT.op (by assumption) (fun _ e => pV_tb e) ?_; intro _ _)
    | (refine PT.op (by assumption) (fun _ e => sI_tb e) ?_; intro _ _)
    | (refine PT.op (by assumption) (fun _ e => sR_tb e) ?_; intro _ _)
    | (refine PT.op (by assumption) (fun _ e => tb_Reader_new e) ?_; intro _ _)
    | (refine PT.op (by assumption) (fun _ e => tb_Sightings_new e) ?_; intro _ _)
    | (refine PT.op (by assumption) (fun _ e => tb_Realm_new e) ?_; intro _ _)
    | (refine PT.op (by assumption) (fun _ e => tb_Planner_new e) ?_; intro _ _)
    | (refine PT.op (by assumption) (fun _ e => tb_Tables_new e) ?_; intro _ _)
    | (refine PT.op (by assumption) (fun _ e => tb_Odds_new e) ?_; intro _ _)
    | (refine PT.op (by assumption) (fun _ e => tb_Sheet_new e) ?_; intro _ _)
    | (refine PT.op (by assumption) (fun _ e => tb_Q_new e) ?_; intro _ _)
    | (refine PT.op (by assumption) (fun _ e => tb_M_firstDraft e) ?_; intro _ _)
    | (refine PT.op (by assumption) (fun _ e => tb_M_keepDraft e) ?_; intro _ _)
    | (refine PT.bdp ?_; intro _)
    | split)
/-- the same functions, with numbers evaluated as they come (for the kernel) -/
def frc {α : Type} (n : Nat) (f : Nat → α) : α := match n with
  | 0 => f 0
  | m + 1 => f (m + 1)
theorem frc_eq {α : Type} (n : Nat) (f : Nat → α) : frc n f = f n := by cases n <;> rfl
def vu2 {α : Type} (f : Nat → α) (k : Nat) (v : α) : Nat → α := fun j => bif Nat.beq j k then v else f j
theorem vu2_eq {α : Type} (f : Nat → α) (k : Nat) (v : α) : vu2 f k v = va_up f k v := by
  funext j
  unfold vu2 va_up
  by_cases h : j = k
  · subst h; simp
  · have : Nat.beq j k = false := Bool.eq_false_iff.mpr (fun z => h (Nat.eq_of_beq_eq_true z))
    rw [this, if_neg h]; rfl
def up3 (f : Nat → Int32) (k : Nat) (v : Int32) : Nat → Int32 := fun j => bif Nat.beq j k then v else f j
theorem up3_eq (f : Nat → Int32) (k : Nat) (v : Int32) : up3 f k v = upd f k v := by
  funext j
  unfold up3 upd
  by_cases h : j = k
  · subst h; simp
  · have : Nat.beq j k = false := Bool.eq_false_iff.mpr (fun z => h (Nat.eq_of_beq_eq_true z))
    rw [this]; simp [h]
def mkn2 (h : mH) (sl : Nat) (c : mCell) : Option mH := if h.1 < 1000 then frc h.1 fun p => frc (p + 1) fun n => frc (h.2.1 + sl) fun s => some (n, s, vu2 h.2.2 p c) else none
theorem mkn2_eq : mkn2 = mkn := by funext h sl c; unfold mkn2 mkn; simp only [frc_eq, vu2_eq, up3_eq]; rfl
def pV2 (h : mH) (o ci k : Nat) (v : Value) : Option mH := match h.2.2 o with
  | .inr (c, fs) => if c = ci ∧ k < fs.length then frc h.1 fun n => frc h.2.1 fun s => frc o fun p => some (n, s, vu2 h.2.2 p (.inr (c, fs.set k v))) else none
  | .inl _ => none
theorem pV2_eq : pV2 = pV := by funext h o ci k v; unfold pV2 pV; simp only [frc_eq, vu2_eq, up3_eq]; rfl
def sI2 (h : mH) (t o : Nat) (i x : Int32) : Option mH := match h.2.2 o with
  | .inl (t', n, .inl f) => if t' = t ∧ ¬ (i < 0 ∨ n ≤ i.toNatClampNeg) then frc h.1 fun m => frc h.2.1 fun s => frc o fun p => frc i.toNatClampNeg fun j => some (m, s, vu2 h.2.2 p (.inl (t, n, .inl (up3 f j x)))) else none
  | _ => none
theorem sI2_eq : sI2 = sI := by funext h t o i x; unfold sI2 sI; simp only [frc_eq, vu2_eq, up3_eq]; rfl
def sR2 (h : mH) (t o ci : Nat) (i : Int32) (v : Nat) : Option mH := match h.2.2 o, h.2.2 v with
  | .inl (t', n, .inr (.inr (.inr (.inr f)))), .inr (c, _ :: _) => if t' = t ∧ c = ci ∧ ¬ (i < 0 ∨ n ≤ i.toNatClampNeg) then frc h.1 fun m => frc h.2.1 fun s => frc o fun p => frc i.toNatClampNeg fun j => frc v fun q => some (m, s, vu2 h.2.2 p (.inl (t, n, .inr (.inr (.inr (.inr (vu2 f j (some q)))))))) else none
  | _, _ => none
theorem sR2_eq : sR2 = sR := by funext h t o ci i v; unfold sR2 sR; simp only [frc_eq, vu2_eq, up3_eq]; rfl
def incI {α : Type} (x : Int32) (f : Int32 → α) : α := frc (x + 1).toBitVec.toNat fun n => f (Int32.ofNat n)
theorem incI_eq {α : Type} : @incI α = fun x f => f (x + 1) := by
  funext x f
  unfold incI
  rw [frc_eq]
  congr 1
  apply Int32.toBitVec_inj.mp
  show BitVec.ofNat 32 (x + 1).toBitVec.toNat = (x + 1).toBitVec
  rw [BitVec.ofNat_toNat, BitVec.setWidth_eq]
def g_M_firstDraft_23b (rec23 : Nat → Int32 → mH → Option mH) (b0 : Nat) (b1 : Int32) (h : mH) : Option mH :=
  if (5 : Int32) ≤ b1 then
    bd1 (pV2 h b0 8 10 (.int (0 : Int32))) fun h6 =>
    bd1 (pV2 h6 b0 8 11 (.int (0 : Int32))) fun h8 =>
    bd1 (pV2 h8 b0 8 17 (.int ((-4) : Int32))) fun h10 =>
    bd1 (pV2 h10 b0 8 18 (.int ((-4) : Int32))) fun h12 =>
    some h12
  else
    bd1 (gR h b0 8 9) fun x14 =>
    bd1 (sI2 h 0 x14 ((5 : Int32) + b1) ((-4) : Int32)) fun h16 =>
    incI b1 fun bb => rec23 b0 bb h16
theorem g_M_firstDraft_23b_eq : @g_M_firstDraft_23b = @f_M_firstDraft_23b := by
  unfold g_M_firstDraft_23b f_M_firstDraft_23b; rw [pV2_eq, sI2_eq, incI_eq]
def g_M_firstDraft_23  : Nat → Nat → Int32 → mH → Option mH
  | 0 => fun _ _ _ => none
  | n + 1 => g_M_firstDraft_23b  (g_M_firstDraft_23  n)
theorem g_M_firstDraft_23_eq : @g_M_firstDraft_23 = @f_M_firstDraft_23 := by
  funext n
  induction n with
  | zero => rfl
  | succ n ih => show g_M_firstDraft_23b (g_M_firstDraft_23 n) = f_M_firstDraft_23b (f_M_firstDraft_23 n); rw [ih, g_M_firstDraft_23b_eq]
def g_M_firstDraft_2b (rec2 : Nat → Int32 → mH → Option mH) (b0 : Nat) (b1 : Int32) (h : mH) : Option mH :=
  if (66 : Int32) ≤ b1 then
    g_M_firstDraft_23  FU b0 (0 : Int32) h
  else
    bd1 (gR h b0 8 9) fun x1 =>
    bd1 (sI2 h 0 x1 b1 (0 : Int32)) fun h3 =>
    incI b1 fun bb => rec2 b0 bb h3
theorem g_M_firstDraft_2b_eq : @g_M_firstDraft_2b = @f_M_firstDraft_2b := by
  unfold g_M_firstDraft_2b f_M_firstDraft_2b; rw [g_M_firstDraft_23_eq, sI2_eq, incI_eq]
def g_M_firstDraft_2  : Nat → Nat → Int32 → mH → Option mH
  | 0 => fun _ _ _ => none
  | n + 1 => g_M_firstDraft_2b  (g_M_firstDraft_2  n)
theorem g_M_firstDraft_2_eq : @g_M_firstDraft_2 = @f_M_firstDraft_2 := by
  funext n
  induction n with
  | zero => rfl
  | succ n ih => show g_M_firstDraft_2b (g_M_firstDraft_2 n) = f_M_firstDraft_2b (f_M_firstDraft_2 n); rw [ih, g_M_firstDraft_2b_eq]
def g_M_firstDraft_0  (a0 : Nat) (h : mH) : Option mH :=
  g_M_firstDraft_2  FU a0 (0 : Int32) h
theorem g_M_firstDraft_0_eq : @g_M_firstDraft_0 = @f_M_firstDraft_0 := by
  unfold g_M_firstDraft_0 f_M_firstDraft_0; rw [g_M_firstDraft_2_eq]
def g_M_firstDraft (a0 : Nat) (h : mH) : Option mH := g_M_firstDraft_0 a0 h
theorem g_M_firstDraft_eq : @g_M_firstDraft = @f_M_firstDraft := by
  unfold g_M_firstDraft f_M_firstDraft; rw [g_M_firstDraft_0_eq]
def g_M_keepDraft_111b (rec111 : Nat → Int32 → mH → Option mH) (b0 : Nat) (b1 : Int32) (h : mH) : Option mH :=
  bd1 (gI h b0 8 3) fun x51 =>
  if x51 ≤ b1 then
    bd1 (gR h b0 8 1) fun x53 =>
    bd1 (sI2 h 2 x53 (0 : Int32) (vp_nar .boolean (0 : Int32))) fun h55 =>
    bd1 (gR h55 b0 8 1) fun x57 =>
    bd1 (sI2 h55 2 x57 (1 : Int32) (vp_nar .boolean (0 : Int32))) fun h59 =>
    some h59
  else
    bd1 (gR h b0 8 7) fun x61 =>
    bd1 (gR h b0 8 15) fun x63 =>
    bd1 (aI h 0 x63 b1) fun x65 =>
    bd1 (sI2 h 0 x61 b1 x65) fun h67 =>
    bd1 (gR h67 b0 8 8) fun x69 =>
    bd1 (gR h67 b0 8 16) fun x71 =>
    bd1 (aI h67 0 x71 b1) fun x73 =>
    bd1 (sI2 h67 0 x69 b1 x73) fun h75 =>
    incI b1 fun bb => rec111 b0 bb h75
theorem g_M_keepDraft_111b_eq : @g_M_keepDraft_111b = @f_M_keepDraft_111b := by
  unfold g_M_keepDraft_111b f_M_keepDraft_111b; rw [sI2_eq, incI_eq]
def g_M_keepDraft_111  : Nat → Nat → Int32 → mH → Option mH
  | 0 => fun _ _ _ => none
  | n + 1 => g_M_keepDraft_111b  (g_M_keepDraft_111  n)
theorem g_M_keepDraft_111_eq : @g_M_keepDraft_111 = @f_M_keepDraft_111 := by
  funext n
  induction n with
  | zero => rfl
  | succ n ih => show g_M_keepDraft_111b (g_M_keepDraft_111 n) = f_M_keepDraft_111b (f_M_keepDraft_111 n); rw [ih, g_M_keepDraft_111b_eq]
def g_M_keepDraft_59b (rec59 : Nat → Int32 → mH → Option mH) (b0 : Nat) (b1 : Int32) (h : mH) : Option mH :=
  bd1 (gI h b0 8 2) fun x24 =>
  if x24 ≤ b1 then
    g_M_keepDraft_111  FU b0 (0 : Int32) h
  else
    bd1 (gR h b0 8 4) fun x26 =>
    bd1 (gR h b0 8 12) fun x28 =>
    bd1 (aI h 0 x28 b1) fun x30 =>
    bd1 (sI2 h 0 x26 b1 x30) fun h32 =>
    bd1 (gR h32 b0 8 5) fun x34 =>
    bd1 (gR h32 b0 8 13) fun x36 =>
    bd1 (aI h32 0 x36 b1) fun x38 =>
    bd1 (sI2 h32 0 x34 b1 x38) fun h40 =>
    bd1 (gR h40 b0 8 6) fun x42 =>
    bd1 (gR h40 b0 8 14) fun x44 =>
    bd1 (aI h40 0 x44 b1) fun x46 =>
    bd1 (sI2 h40 0 x42 b1 x46) fun h48 =>
    incI b1 fun bb => rec59 b0 bb h48
theorem g_M_keepDraft_59b_eq : @g_M_keepDraft_59b = @f_M_keepDraft_59b := by
  unfold g_M_keepDraft_59b f_M_keepDraft_59b; rw [g_M_keepDraft_111_eq, sI2_eq, incI_eq]
def g_M_keepDraft_59  : Nat → Nat → Int32 → mH → Option mH
  | 0 => fun _ _ _ => none
  | n + 1 => g_M_keepDraft_59b  (g_M_keepDraft_59  n)
theorem g_M_keepDraft_59_eq : @g_M_keepDraft_59 = @f_M_keepDraft_59 := by
  funext n
  induction n with
  | zero => rfl
  | succ n ih => show g_M_keepDraft_59b (g_M_keepDraft_59 n) = f_M_keepDraft_59b (f_M_keepDraft_59 n); rw [ih, g_M_keepDraft_59b_eq]
def g_M_keepDraft_2b (rec2 : Nat → Int32 → mH → Option mH) (b0 : Nat) (b1 : Int32) (h : mH) : Option mH :=
  if (66 : Int32) ≤ b1 then
    bd1 (gI h b0 8 10) fun x1 =>
    bd1 (pV2 h b0 8 2 (.int x1)) fun h3 =>
    bd1 (gI h3 b0 8 11) fun x5 =>
    bd1 (pV2 h3 b0 8 3 (.int x5)) fun h7 =>
    bd1 (gR h7 b0 8 0) fun x9 =>
    bd1 (gI h7 b0 8 2) fun x11 =>
    bd1 (sI2 h7 0 x9 (10 : Int32) (((1 : Int32) <<< (x11 &&& 31)) - (1 : Int32))) fun h13 =>
    g_M_keepDraft_59  FU b0 (0 : Int32) h13
  else
    bd1 (gR h b0 8 0) fun x15 =>
    bd1 (gR h b0 8 9) fun x17 =>
    bd1 (aI h 0 x17 b1) fun x19 =>
    bd1 (sI2 h 0 x15 b1 x19) fun h21 =>
    incI b1 fun bb => rec2 b0 bb h21
theorem g_M_keepDraft_2b_eq : @g_M_keepDraft_2b = @f_M_keepDraft_2b := by
  unfold g_M_keepDraft_2b f_M_keepDraft_2b; rw [g_M_keepDraft_59_eq, pV2_eq, sI2_eq, incI_eq]
def g_M_keepDraft_2  : Nat → Nat → Int32 → mH → Option mH
  | 0 => fun _ _ _ => none
  | n + 1 => g_M_keepDraft_2b  (g_M_keepDraft_2  n)
theorem g_M_keepDraft_2_eq : @g_M_keepDraft_2 = @f_M_keepDraft_2 := by
  funext n
  induction n with
  | zero => rfl
  | succ n ih => show g_M_keepDraft_2b (g_M_keepDraft_2 n) = f_M_keepDraft_2b (f_M_keepDraft_2 n); rw [ih, g_M_keepDraft_2b_eq]
def g_M_keepDraft_0  (a0 : Nat) (h : mH) : Option mH :=
  g_M_keepDraft_2  FU a0 (0 : Int32) h
theorem g_M_keepDraft_0_eq : @g_M_keepDraft_0 = @f_M_keepDraft_0 := by
  unfold g_M_keepDraft_0 f_M_keepDraft_0; rw [g_M_keepDraft_2_eq]
def g_M_keepDraft (a0 : Nat) (h : mH) : Option mH := g_M_keepDraft_0 a0 h
theorem g_M_keepDraft_eq : @g_M_keepDraft = @f_M_keepDraft := by
  unfold g_M_keepDraft f_M_keepDraft; rw [g_M_keepDraft_0_eq]
def g_Reader_new_0  (a0 : Nat) (h : mH) : Option mH :=
  grd (¬ a0 = h.1) <|
  bd1 (mkn2 h 160 (.inl (1, (160, .inl (fun _ => 0))))) fun h2 =>
  grd (h.1 < h2.1) <|
  bd1 (pV2 h2 a0 3 0 (.ref h.1)) fun h6 =>
  some h6
theorem g_Reader_new_0_eq : @g_Reader_new_0 = @f_Reader_new_0 := by
  unfold g_Reader_new_0 f_Reader_new_0; rw [mkn2_eq, pV2_eq]
def g_Reader_new (a0 : Nat) (h : mH) : Option mH := g_Reader_new_0 a0 h
theorem g_Reader_new_eq : @g_Reader_new = @f_Reader_new := by
  unfold g_Reader_new f_Reader_new; rw [g_Reader_new_0_eq]
def g_Sightings_new_0  (a0 : Nat) (h : mH) : Option mH :=
  grd (¬ a0 = h.1) <|
  bd1 (mkn2 h 8 (.inl (0, (8, .inl (fun _ => 0))))) fun h2 =>
  grd (h.1 < h2.1) <|
  bd1 (pV2 h2 a0 6 1 (.ref h.1)) fun h6 =>
  grd (¬ a0 = h6.1) <|
  bd1 (mkn2 h6 8 (.inl (0, (8, .inl (fun _ => 0))))) fun h10 =>
  grd (h6.1 < h10.1) <|
  bd1 (pV2 h10 a0 6 2 (.ref h6.1)) fun h14 =>
  grd (¬ a0 = h14.1) <|
  bd1 (mkn2 h14 8 (.inl (0, (8, .inl (fun _ => 0))))) fun h18 =>
  grd (h14.1 < h18.1) <|
  bd1 (pV2 h18 a0 6 3 (.ref h14.1)) fun h22 =>
  some h22
theorem g_Sightings_new_0_eq : @g_Sightings_new_0 = @f_Sightings_new_0 := by
  unfold g_Sightings_new_0 f_Sightings_new_0; rw [mkn2_eq, pV2_eq]
def g_Sightings_new (a0 : Nat) (h : mH) : Option mH := g_Sightings_new_0 a0 h
theorem g_Sightings_new_eq : @g_Sightings_new = @f_Sightings_new := by
  unfold g_Sightings_new f_Sightings_new; rw [g_Sightings_new_0_eq]
def g_Realm_new_0  (a0 : Nat) (h : mH) : Option mH :=
  grd (¬ a0 = h.1) <|
  bd1 (mkn2 h 5 (.inl (0, (5, .inl (fun _ => 0))))) fun h2 =>
  grd (h.1 < h2.1) <|
  bd1 (pV2 h2 a0 4 6 (.ref h.1)) fun h6 =>
  grd (¬ a0 = h6.1) <|
  bd1 (mkn2 h6 5 (.inl (0, (5, .inl (fun _ => 0))))) fun h10 =>
  grd (h6.1 < h10.1) <|
  bd1 (pV2 h10 a0 4 7 (.ref h6.1)) fun h14 =>
  grd (¬ a0 = h14.1) <|
  bd1 (mkn2 h14 5 (.inl (0, (5, .inl (fun _ => 0))))) fun h18 =>
  grd (h14.1 < h18.1) <|
  bd1 (pV2 h18 a0 4 8 (.ref h14.1)) fun h22 =>
  grd (¬ a0 = h22.1) <|
  bd1 (mkn2 h22 5 (.inl (0, (5, .inl (fun _ => 0))))) fun h26 =>
  grd (h22.1 < h26.1) <|
  bd1 (pV2 h26 a0 4 9 (.ref h22.1)) fun h30 =>
  grd (¬ a0 = h30.1) <|
  bd1 (mkn2 h30 5 (.inl (0, (5, .inl (fun _ => 0))))) fun h34 =>
  grd (h30.1 < h34.1) <|
  bd1 (pV2 h34 a0 4 10 (.ref h30.1)) fun h38 =>
  grd (¬ a0 = h38.1) <|
  bd1 (mkn2 h38 3 (.inl (0, (3, .inl (fun _ => 0))))) fun h42 =>
  grd (h38.1 < h42.1) <|
  bd1 (pV2 h42 a0 4 11 (.ref h38.1)) fun h46 =>
  grd (¬ a0 = h46.1) <|
  bd1 (mkn2 h46 3 (.inl (0, (3, .inl (fun _ => 0))))) fun h50 =>
  grd (h46.1 < h50.1) <|
  bd1 (pV2 h50 a0 4 12 (.ref h46.1)) fun h54 =>
  grd (¬ a0 = h54.1) <|
  bd1 (mkn2 h54 3 (.inl (0, (3, .inl (fun _ => 0))))) fun h58 =>
  grd (h54.1 < h58.1) <|
  bd1 (pV2 h58 a0 4 13 (.ref h54.1)) fun h62 =>
  grd (¬ a0 = h62.1) <|
  bd1 (mkn2 h62 3 (.inl (0, (3, .inl (fun _ => 0))))) fun h66 =>
  grd (h62.1 < h66.1) <|
  bd1 (pV2 h66 a0 4 14 (.ref h62.1)) fun h70 =>
  grd (¬ a0 = h70.1) <|
  bd1 (mkn2 h70 3 (.inl (0, (3, .inl (fun _ => 0))))) fun h74 =>
  grd (h70.1 < h74.1) <|
  bd1 (pV2 h74 a0 4 15 (.ref h70.1)) fun h78 =>
  grd (¬ a0 = h78.1) <|
  bd1 (mkn2 h78 3 (.inl (0, (3, .inl (fun _ => 0))))) fun h82 =>
  grd (h78.1 < h82.1) <|
  bd1 (pV2 h82 a0 4 16 (.ref h78.1)) fun h86 =>
  grd (¬ a0 = h86.1) <|
  bd1 (mkn2 h86 15 (.inl (0, (15, .inl (fun _ => 0))))) fun h90 =>
  grd (h86.1 < h90.1) <|
  bd1 (pV2 h90 a0 4 17 (.ref h86.1)) fun h94 =>
  grd (¬ a0 = h94.1) <|
  bd1 (mkn2 h94 4 (.inr (6, [.int 0, .null, .null, .null]))) fun h98 =>
  grd (a0 < h98.1 ∧ h94.1 < h98.1) <|
  bd1 (g_Sightings_new h94.1 h98) fun h104 =>
  grd (h94.1 < h104.1) <|
  bd1 (pV2 h104 a0 4 18 (.ref h94.1)) fun h106 =>
  some h106
theorem g_Realm_new_0_eq : @g_Realm_new_0 = @f_Realm_new_0 := by
  unfold g_Realm_new_0 f_Realm_new_0; rw [g_Sightings_new_eq, mkn2_eq, pV2_eq]
def g_Realm_new (a0 : Nat) (h : mH) : Option mH := g_Realm_new_0 a0 h
theorem g_Realm_new_eq : @g_Realm_new = @f_Realm_new := by
  unfold g_Realm_new f_Realm_new; rw [g_Realm_new_0_eq]
def g_Planner_new_0  (a0 : Nat) (h : mH) : Option mH :=
  grd (¬ a0 = h.1) <|
  bd1 (mkn2 h 3 (.inl (0, (3, .inl (fun _ => 0))))) fun h2 =>
  grd (h.1 < h2.1) <|
  bd1 (pV2 h2 a0 2 1 (.ref h.1)) fun h6 =>
  grd (¬ a0 = h6.1) <|
  bd1 (mkn2 h6 5 (.inl (0, (5, .inl (fun _ => 0))))) fun h10 =>
  grd (h6.1 < h10.1) <|
  bd1 (pV2 h10 a0 2 2 (.ref h6.1)) fun h14 =>
  grd (¬ a0 = h14.1) <|
  bd1 (mkn2 h14 6 (.inl (0, (6, .inl (fun _ => 0))))) fun h18 =>
  grd (h14.1 < h18.1) <|
  bd1 (pV2 h18 a0 2 3 (.ref h14.1)) fun h22 =>
  grd (¬ a0 = h22.1) <|
  bd1 (mkn2 h22 15 (.inl (0, (15, .inl (fun _ => 0))))) fun h26 =>
  grd (h22.1 < h26.1) <|
  bd1 (pV2 h26 a0 2 4 (.ref h22.1)) fun h30 =>
  grd (¬ a0 = h30.1) <|
  bd1 (mkn2 h30 15 (.inl (0, (15, .inl (fun _ => 0))))) fun h34 =>
  grd (h30.1 < h34.1) <|
  bd1 (pV2 h34 a0 2 5 (.ref h30.1)) fun h38 =>
  grd (¬ a0 = h38.1) <|
  bd1 (mkn2 h38 15 (.inl (0, (15, .inl (fun _ => 0))))) fun h42 =>
  grd (h38.1 < h42.1) <|
  bd1 (pV2 h42 a0 2 6 (.ref h38.1)) fun h46 =>
  grd (¬ a0 = h46.1) <|
  bd1 (mkn2 h46 216 (.inl (0, (216, .inl (fun _ => 0))))) fun h50 =>
  grd (h46.1 < h50.1) <|
  bd1 (pV2 h50 a0 2 7 (.ref h46.1)) fun h54 =>
  some h54
theorem g_Planner_new_0_eq : @g_Planner_new_0 = @f_Planner_new_0 := by
  unfold g_Planner_new_0 f_Planner_new_0; rw [mkn2_eq, pV2_eq]
def g_Planner_new (a0 : Nat) (h : mH) : Option mH := g_Planner_new_0 a0 h
theorem g_Planner_new_eq : @g_Planner_new = @f_Planner_new := by
  unfold g_Planner_new f_Planner_new; rw [g_Planner_new_0_eq]
def g_Tables_new_0  (a0 : Nat) (h : mH) : Option mH :=
  grd (¬ a0 = h.1) <|
  bd1 (mkn2 h 15 (.inl (0, (15, .inl (fun _ => 0))))) fun h2 =>
  grd (h.1 < h2.1) <|
  bd1 (pV2 h2 a0 7 1 (.ref h.1)) fun h6 =>
  grd (¬ a0 = h6.1) <|
  bd1 (mkn2 h6 15 (.inl (0, (15, .inl (fun _ => 0))))) fun h10 =>
  grd (h6.1 < h10.1) <|
  bd1 (pV2 h10 a0 7 2 (.ref h6.1)) fun h14 =>
  grd (¬ a0 = h14.1) <|
  bd1 (mkn2 h14 5 (.inl (0, (5, .inl (fun _ => 0))))) fun h18 =>
  grd (h14.1 < h18.1) <|
  bd1 (pV2 h18 a0 7 3 (.ref h14.1)) fun h22 =>
  grd (¬ a0 = h22.1) <|
  bd1 (mkn2 h22 3 (.inl (0, (3, .inl (fun _ => 0))))) fun h26 =>
  grd (h22.1 < h26.1) <|
  bd1 (pV2 h26 a0 7 4 (.ref h22.1)) fun h30 =>
  grd (¬ a0 = h30.1) <|
  bd1 (mkn2 h30 3 (.inl (0, (3, .inl (fun _ => 0))))) fun h34 =>
  grd (h30.1 < h34.1) <|
  bd1 (pV2 h34 a0 7 5 (.ref h30.1)) fun h38 =>
  grd (¬ a0 = h38.1) <|
  bd1 (mkn2 h38 18 (.inl (3, (18, .inr (.inl (fun _ => 0)))))) fun h42 =>
  grd (h38.1 < h42.1) <|
  bd1 (pV2 h42 a0 7 6 (.ref h38.1)) fun h46 =>
  grd (¬ a0 = h46.1) <|
  bd1 (mkn2 h46 216 (.inl (3, (216, .inr (.inl (fun _ => 0)))))) fun h50 =>
  grd (h46.1 < h50.1) <|
  bd1 (pV2 h50 a0 7 7 (.ref h46.1)) fun h54 =>
  some h54
theorem g_Tables_new_0_eq : @g_Tables_new_0 = @f_Tables_new_0 := by
  unfold g_Tables_new_0 f_Tables_new_0; rw [mkn2_eq, pV2_eq]
def g_Tables_new (a0 : Nat) (h : mH) : Option mH := g_Tables_new_0 a0 h
theorem g_Tables_new_eq : @g_Tables_new = @f_Tables_new := by
  unfold g_Tables_new f_Tables_new; rw [g_Tables_new_0_eq]
def g_Odds_new_0  (a0 : Nat) (h : mH) : Option mH :=
  grd (¬ a0 = h.1) <|
  bd1 (mkn2 h 10 (.inl (3, (10, .inr (.inl (fun _ => 0)))))) fun h2 =>
  grd (h.1 < h2.1) <|
  bd1 (pV2 h2 a0 1 2 (.ref h.1)) fun h6 =>
  some h6
theorem g_Odds_new_0_eq : @g_Odds_new_0 = @f_Odds_new_0 := by
  unfold g_Odds_new_0 f_Odds_new_0; rw [mkn2_eq, pV2_eq]
def g_Odds_new (a0 : Nat) (h : mH) : Option mH := g_Odds_new_0 a0 h
theorem g_Odds_new_eq : @g_Odds_new = @f_Odds_new := by
  unfold g_Odds_new f_Odds_new; rw [g_Odds_new_0_eq]
def g_Sheet_new_0  (a0 : Nat) (h : mH) : Option mH :=
  bd1 (pV2 h a0 5 0 (.int ((-4) : Int32))) fun h1 =>
  grd (¬ a0 = h1.1) <|
  bd1 (mkn2 h1 40 (.inl (0, (40, .inl (fun _ => 0))))) fun h4 =>
  grd (h1.1 < h4.1) <|
  bd1 (pV2 h4 a0 5 2 (.ref h1.1)) fun h8 =>
  some h8
theorem g_Sheet_new_0_eq : @g_Sheet_new_0 = @f_Sheet_new_0 := by
  unfold g_Sheet_new_0 f_Sheet_new_0; rw [mkn2_eq, pV2_eq]
def g_Sheet_new (a0 : Nat) (h : mH) : Option mH := g_Sheet_new_0 a0 h
theorem g_Sheet_new_eq : @g_Sheet_new = @f_Sheet_new := by
  unfold g_Sheet_new f_Sheet_new; rw [g_Sheet_new_0_eq]
def g_Q_new_121b (rec121 : Nat → Int32 → mH → Option mH) (b0 : Nat) (b1 : Int32) (h : mH) : Option mH :=
  if (4 : Int32) ≤ b1 then
    some h
  else
    bd1 (gR h b0 0 5) fun x113 =>
    grd (¬ b0 = h.1 ∧ ¬ x113 = h.1) <|
    bd1 (mkn2 h 3 (.inr (5, [.int 0, .int 0, .null]))) fun h117 =>
    grd (b0 < h117.1 ∧ h.1 < h117.1 ∧ x113 < h117.1) <|
    bd1 (g_Sheet_new h.1 h117) fun h124 =>
    bd1 (sR2 h124 5 x113 5 b1 h.1) fun h126 =>
    incI b1 fun bb => rec121 b0 bb h126
theorem g_Q_new_121b_eq : @g_Q_new_121b = @f_Q_new_121b := by
  unfold g_Q_new_121b f_Q_new_121b; rw [g_Sheet_new_eq, mkn2_eq, sR2_eq, incI_eq]
def g_Q_new_121  : Nat → Nat → Int32 → mH → Option mH
  | 0 => fun _ _ _ => none
  | n + 1 => g_Q_new_121b  (g_Q_new_121  n)
theorem g_Q_new_121_eq : @g_Q_new_121 = @f_Q_new_121 := by
  funext n
  induction n with
  | zero => rfl
  | succ n ih => show g_Q_new_121b (g_Q_new_121 n) = f_Q_new_121b (f_Q_new_121 n); rw [ih, g_Q_new_121b_eq]
def g_Q_new_95b (rec95 : Nat → Int32 → mH → Option mH) (b0 : Nat) (b1 : Int32) (h : mH) : Option mH :=
  if (2 : Int32) ≤ b1 then
    g_Q_new_121  FU b0 (0 : Int32) h
  else
    bd1 (gR h b0 0 3) fun x97 =>
    grd (¬ b0 = h.1 ∧ ¬ x97 = h.1) <|
    bd1 (mkn2 h 19 (.inr (4, [.int 0, .int 0, .int 0, .int 0, .int 0, .int 0, .null, .null, .null, .null, .null, .null, .null, .null, .null, .null, .null, .null, .null]))) fun h101 =>
    grd (b0 < h101.1 ∧ h.1 < h101.1 ∧ x97 < h101.1) <|
    bd1 (g_Realm_new h.1 h101) fun h108 =>
    bd1 (sR2 h108 4 x97 4 b1 h.1) fun h110 =>
    incI b1 fun bb => rec95 b0 bb h110
theorem g_Q_new_95b_eq : @g_Q_new_95b = @f_Q_new_95b := by
  unfold g_Q_new_95b f_Q_new_95b; rw [g_Q_new_121_eq, g_Realm_new_eq, mkn2_eq, sR2_eq, incI_eq]
def g_Q_new_95  : Nat → Nat → Int32 → mH → Option mH
  | 0 => fun _ _ _ => none
  | n + 1 => g_Q_new_95b  (g_Q_new_95  n)
theorem g_Q_new_95_eq : @g_Q_new_95 = @f_Q_new_95 := by
  funext n
  induction n with
  | zero => rfl
  | succ n ih => show g_Q_new_95b (g_Q_new_95 n) = f_Q_new_95b (f_Q_new_95 n); rw [ih, g_Q_new_95b_eq]
def g_Q_new_0  (a0 : Nat) (h : mH) : Option mH :=
  grd (¬ a0 = h.1) <|
  bd1 (mkn2 h 9 (.inr (3, [.null, .int 0, .int 0, .int 0, .int 0, .int 0, .int 0, .int 0, .int 0]))) fun h2 =>
  grd (a0 < h2.1 ∧ h.1 < h2.1) <|
  bd1 (g_Reader_new h.1 h2) fun h8 =>
  grd (h.1 < h8.1) <|
  bd1 (pV2 h8 a0 0 0 (.ref h.1)) fun h10 =>
  grd (¬ a0 = h10.1) <|
  bd1 (mkn2 h10 19 (.inr (4, [.int 0, .int 0, .int 0, .int 0, .int 0, .int 0, .null, .null, .null, .null, .null, .null, .null, .null, .null, .null, .null, .null, .null]))) fun h14 =>
  grd (a0 < h14.1 ∧ h10.1 < h14.1) <|
  bd1 (g_Realm_new h10.1 h14) fun h20 =>
  grd (h10.1 < h20.1) <|
  bd1 (pV2 h20 a0 0 1 (.ref h10.1)) fun h22 =>
  grd (¬ a0 = h22.1) <|
  bd1 (mkn2 h22 19 (.inr (4, [.int 0, .int 0, .int 0, .int 0, .int 0, .int 0, .null, .null, .null, .null, .null, .null, .null, .null, .null, .null, .null, .null, .null]))) fun h26 =>
  grd (a0 < h26.1 ∧ h22.1 < h26.1) <|
  bd1 (g_Realm_new h22.1 h26) fun h32 =>
  grd (h22.1 < h32.1) <|
  bd1 (pV2 h32 a0 0 2 (.ref h22.1)) fun h34 =>
  grd (¬ a0 = h34.1) <|
  bd1 (mkn2 h34 2 (.inl (4, 2, .inr (.inr (.inr (.inr (fun _ => none))))))) fun h38 =>
  grd (h34.1 < h38.1) <|
  bd1 (pV2 h38 a0 0 3 (.ref h34.1)) fun h42 =>
  grd (¬ a0 = h42.1) <|
  bd1 (mkn2 h42 2 (.inl (2, (2, .inl (fun _ => 0))))) fun h46 =>
  grd (h42.1 < h46.1) <|
  bd1 (pV2 h46 a0 0 4 (.ref h42.1)) fun h50 =>
  grd (¬ a0 = h50.1) <|
  bd1 (mkn2 h50 4 (.inl (5, 4, .inr (.inr (.inr (.inr (fun _ => none))))))) fun h54 =>
  grd (h50.1 < h54.1) <|
  bd1 (pV2 h54 a0 0 5 (.ref h50.1)) fun h58 =>
  grd (¬ a0 = h58.1) <|
  bd1 (mkn2 h58 8 (.inr (2, [.int 0, .null, .null, .null, .null, .null, .null, .null]))) fun h62 =>
  grd (a0 < h62.1 ∧ h58.1 < h62.1) <|
  bd1 (g_Planner_new h58.1 h62) fun h68 =>
  grd (h58.1 < h68.1) <|
  bd1 (pV2 h68 a0 0 6 (.ref h58.1)) fun h70 =>
  grd (¬ a0 = h70.1) <|
  bd1 (mkn2 h70 8 (.inr (7, [.int 0, .null, .null, .null, .null, .null, .null, .null]))) fun h74 =>
  grd (a0 < h74.1 ∧ h70.1 < h74.1) <|
  bd1 (g_Tables_new h70.1 h74) fun h80 =>
  grd (h70.1 < h80.1) <|
  bd1 (pV2 h80 a0 0 7 (.ref h70.1)) fun h82 =>
  grd (¬ a0 = h82.1) <|
  bd1 (mkn2 h82 3 (.inr (1, [.long 0, .long 0, .null]))) fun h86 =>
  grd (a0 < h86.1 ∧ h82.1 < h86.1) <|
  bd1 (g_Odds_new h82.1 h86) fun h92 =>
  grd (h82.1 < h92.1) <|
  bd1 (pV2 h92 a0 0 8 (.ref h82.1)) fun h94 =>
  g_Q_new_95  FU a0 (0 : Int32) h94
theorem g_Q_new_0_eq : @g_Q_new_0 = @f_Q_new_0 := by
  unfold g_Q_new_0 f_Q_new_0; rw [g_Reader_new_eq, g_Realm_new_eq, g_Planner_new_eq, g_Tables_new_eq, g_Odds_new_eq, g_Q_new_95_eq, mkn2_eq, pV2_eq]
def g_Q_new (a0 : Nat) (h : mH) : Option mH := g_Q_new_0 a0 h
theorem g_Q_new_eq : @g_Q_new = @f_Q_new := by
  unfold g_Q_new f_Q_new; rw [g_Q_new_0_eq]
def g_M_new_196b (rec196 : Nat → Int32 → mH → Option mH) (b0 : Nat) (b1 : Int32) (h : mH) : Option mH :=
  if (4 : Int32) ≤ b1 then
    bd1 (kC h b0 8) fun _ =>
    bd1 (g_M_firstDraft b0 h) fun h203 =>
    bd1 (kC h203 b0 8) fun _ =>
    bd1 (g_M_keepDraft b0 h203) fun h207 =>
    some h207
  else
    bd1 (gR h b0 8 35) fun x209 =>
    bd1 (sI2 h 0 x209 b1 ((-4) : Int32)) fun h211 =>
    incI b1 fun bb => rec196 b0 bb h211
theorem g_M_new_196b_eq : @g_M_new_196b = @f_M_new_196b := by
  unfold g_M_new_196b f_M_new_196b; rw [g_M_firstDraft_eq, g_M_keepDraft_eq, sI2_eq, incI_eq]
def g_M_new_196  : Nat → Nat → Int32 → mH → Option mH
  | 0 => fun _ _ _ => none
  | n + 1 => g_M_new_196b  (g_M_new_196  n)
theorem g_M_new_196_eq : @g_M_new_196 = @f_M_new_196 := by
  funext n
  induction n with
  | zero => rfl
  | succ n ih => show g_M_new_196b (g_M_new_196 n) = f_M_new_196b (f_M_new_196 n); rw [ih, g_M_new_196b_eq]
def g_M_new_0  (a0 : Nat) (h : mH) : Option mH :=
  grd (¬ a0 = h.1) <|
  bd1 (mkn2 h 198 (.inl (0, (198, .inl (fun _ => 0))))) fun h2 =>
  grd (h.1 < h2.1) <|
  bd1 (pV2 h2 a0 8 0 (.ref h.1)) fun h6 =>
  grd (¬ a0 = h6.1) <|
  bd1 (mkn2 h6 2 (.inl (2, (2, .inl (fun _ => 0))))) fun h10 =>
  grd (h6.1 < h10.1) <|
  bd1 (pV2 h10 a0 8 1 (.ref h6.1)) fun h14 =>
  grd (¬ a0 = h14.1) <|
  bd1 (mkn2 h14 5 (.inl (0, (5, .inl (fun _ => 0))))) fun h18 =>
  grd (h14.1 < h18.1) <|
  bd1 (pV2 h18 a0 8 4 (.ref h14.1)) fun h22 =>
  grd (¬ a0 = h22.1) <|
  bd1 (mkn2 h22 5 (.inl (0, (5, .inl (fun _ => 0))))) fun h26 =>
  grd (h22.1 < h26.1) <|
  bd1 (pV2 h26 a0 8 5 (.ref h22.1)) fun h30 =>
  grd (¬ a0 = h30.1) <|
  bd1 (mkn2 h30 5 (.inl (0, (5, .inl (fun _ => 0))))) fun h34 =>
  grd (h30.1 < h34.1) <|
  bd1 (pV2 h34 a0 8 6 (.ref h30.1)) fun h38 =>
  grd (¬ a0 = h38.1) <|
  bd1 (mkn2 h38 3 (.inl (0, (3, .inl (fun _ => 0))))) fun h42 =>
  grd (h38.1 < h42.1) <|
  bd1 (pV2 h42 a0 8 7 (.ref h38.1)) fun h46 =>
  grd (¬ a0 = h46.1) <|
  bd1 (mkn2 h46 3 (.inl (0, (3, .inl (fun _ => 0))))) fun h50 =>
  grd (h46.1 < h50.1) <|
  bd1 (pV2 h50 a0 8 8 (.ref h46.1)) fun h54 =>
  grd (¬ a0 = h54.1) <|
  bd1 (mkn2 h54 66 (.inl (0, (66, .inl (fun _ => 0))))) fun h58 =>
  grd (h54.1 < h58.1) <|
  bd1 (pV2 h58 a0 8 9 (.ref h54.1)) fun h62 =>
  grd (¬ a0 = h62.1) <|
  bd1 (mkn2 h62 5 (.inl (0, (5, .inl (fun _ => 0))))) fun h66 =>
  grd (h62.1 < h66.1) <|
  bd1 (pV2 h66 a0 8 12 (.ref h62.1)) fun h70 =>
  grd (¬ a0 = h70.1) <|
  bd1 (mkn2 h70 5 (.inl (0, (5, .inl (fun _ => 0))))) fun h74 =>
  grd (h70.1 < h74.1) <|
  bd1 (pV2 h74 a0 8 13 (.ref h70.1)) fun h78 =>
  grd (¬ a0 = h78.1) <|
  bd1 (mkn2 h78 5 (.inl (0, (5, .inl (fun _ => 0))))) fun h82 =>
  grd (h78.1 < h82.1) <|
  bd1 (pV2 h82 a0 8 14 (.ref h78.1)) fun h86 =>
  grd (¬ a0 = h86.1) <|
  bd1 (mkn2 h86 3 (.inl (0, (3, .inl (fun _ => 0))))) fun h90 =>
  grd (h86.1 < h90.1) <|
  bd1 (pV2 h90 a0 8 15 (.ref h86.1)) fun h94 =>
  grd (¬ a0 = h94.1) <|
  bd1 (mkn2 h94 3 (.inl (0, (3, .inl (fun _ => 0))))) fun h98 =>
  grd (h94.1 < h98.1) <|
  bd1 (pV2 h98 a0 8 16 (.ref h94.1)) fun h102 =>
  grd (¬ a0 = h102.1) <|
  bd1 (mkn2 h102 160 (.inl (0, (160, .inl (fun _ => 0))))) fun h106 =>
  grd (h102.1 < h106.1) <|
  bd1 (pV2 h106 a0 8 19 (.ref h102.1)) fun h110 =>
  grd (¬ a0 = h110.1) <|
  bd1 (mkn2 h110 24576 (.inl (0, (24576, .inl (fun _ => 0))))) fun h114 =>
  grd (h110.1 < h114.1) <|
  bd1 (pV2 h114 a0 8 27 (.ref h110.1)) fun h118 =>
  grd (¬ a0 = h118.1) <|
  bd1 (mkn2 h118 5 (.inl (0, (5, .inl (fun _ => 0))))) fun h122 =>
  grd (h118.1 < h122.1) <|
  bd1 (pV2 h122 a0 8 28 (.ref h118.1)) fun h126 =>
  grd (¬ a0 = h126.1) <|
  bd1 (mkn2 h126 3 (.inl (0, (3, .inl (fun _ => 0))))) fun h130 =>
  grd (h126.1 < h130.1) <|
  bd1 (pV2 h130 a0 8 29 (.ref h126.1)) fun h134 =>
  grd (¬ a0 = h134.1) <|
  bd1 (mkn2 h134 3 (.inl (0, (3, .inl (fun _ => 0))))) fun h138 =>
  grd (h134.1 < h138.1) <|
  bd1 (pV2 h138 a0 8 30 (.ref h134.1)) fun h142 =>
  grd (¬ a0 = h142.1) <|
  bd1 (mkn2 h142 66 (.inl (0, (66, .inl (fun _ => 0))))) fun h146 =>
  grd (h142.1 < h146.1) <|
  bd1 (pV2 h146 a0 8 31 (.ref h142.1)) fun h150 =>
  grd (¬ a0 = h150.1) <|
  bd1 (mkn2 h150 16 (.inl (3, (16, .inr (.inl (fun _ => 0)))))) fun h154 =>
  grd (h150.1 < h154.1) <|
  bd1 (pV2 h154 a0 8 32 (.ref h150.1)) fun h158 =>
  grd (¬ a0 = h158.1) <|
  bd1 (mkn2 h158 216 (.inl (3, (216, .inr (.inl (fun _ => 0)))))) fun h162 =>
  grd (h158.1 < h162.1) <|
  bd1 (pV2 h162 a0 8 33 (.ref h158.1)) fun h166 =>
  grd (¬ a0 = h166.1) <|
  bd1 (mkn2 h166 216 (.inl (3, (216, .inr (.inl (fun _ => 0)))))) fun h170 =>
  grd (h166.1 < h170.1) <|
  bd1 (pV2 h170 a0 8 34 (.ref h166.1)) fun h174 =>
  grd (¬ a0 = h174.1) <|
  bd1 (mkn2 h174 4 (.inl (0, (4, .inl (fun _ => 0))))) fun h178 =>
  grd (h174.1 < h178.1) <|
  bd1 (pV2 h178 a0 8 35 (.ref h174.1)) fun h182 =>
  grd (¬ a0 = h182.1) <|
  bd1 (mkn2 h182 4 (.inl (0, (4, .inl (fun _ => 0))))) fun h186 =>
  grd (h182.1 < h186.1) <|
  bd1 (pV2 h186 a0 8 36 (.ref h182.1)) fun h190 =>
  grd (¬ a0 = h190.1) <|
  bd1 (mkn2 h190 160 (.inl (0, (160, .inl (fun _ => 0))))) fun h194 =>
  grd (h190.1 < h194.1) <|
  bd1 (pV2 h194 a0 8 37 (.ref h190.1)) fun h198 =>
  g_M_new_196  FU a0 (0 : Int32) h198
theorem g_M_new_0_eq : @g_M_new_0 = @f_M_new_0 := by
  unfold g_M_new_0 f_M_new_0; rw [g_M_new_196_eq, mkn2_eq, pV2_eq]
def g_M_new (a0 : Nat) (h : mH) : Option mH := g_M_new_0 a0 h
theorem g_M_new_eq : @g_M_new = @f_M_new := by
  unfold g_M_new f_M_new; rw [g_M_new_0_eq]
def hA : mH := (1, 10, va_up (fun _ => dead) 0 (.inr (0, [.null, .null, .null, .null, .null, .null, .null, .null, .null, .int 0])))
def hB : mH := (g_Q_new 0 hA).getD h00
def hC : mH := (mkn2 hB 39 (.inr (8, [.null, .null, .int 0, .int 0, .null, .null, .null, .null, .null, .null, .int 0, .int 0, .null, .null, .null, .null, .null, .int 0, .int 0, .null, .int 0, .int 0, .int 0, .int 0, .int 0, .int 0, .int 0, .null, .null, .null, .null, .null, .null, .null, .null, .null, .null, .null, .int 0]))).getD h00
def hD : mH := (g_M_new 100 hC).getD h00
theorem get_of {x : Option mH} (h : x.isSome = true) : x = some (x.getD h00) := by
  cases x with
  | none => cases h
  | some a => rfl
theorem eB : f_Q_new 0 hA = some hB := by
  rw [← g_Q_new_eq]
  exact get_of (by decide +kernel)
theorem nxB : hB.1 = 100 := by decide +kernel
theorem eC : mkn hB 39 (.inr (8, [.null, .null, .int 0, .int 0, .null, .null, .null, .null, .null, .null, .int 0, .int 0, .null, .null, .null, .null, .null, .int 0, .int 0, .null, .int 0, .int 0, .int 0, .int 0, .int 0, .int 0, .int 0, .null, .null, .null, .null, .null, .null, .null, .null, .null, .null, .null, .int 0])) = some hC := by
  rw [← mkn2_eq]
  exact get_of (by decide +kernel)
theorem nxC : hC.1 = 101 := by decide +kernel
theorem eD : f_M_new 100 hC = some hD := by
  rw [← g_M_new_eq]
  exact get_of (by decide +kernel)
theorem nD : hD.1 = 126 ∧ hD.2.1 = 27134 := by decide +kernel
theorem eA : mkn h00 10 (.inr (0, [.null, .null, .null, .null, .null, .null, .null, .null, .null, .int 0])) = some hA := by
  unfold mkn
  rw [if_pos (show h00.1 < 1000 by decide)]
  rfl
theorem t_A : TB h00 hA := mkn_tb (by exact trivial) eA
theorem t_B : TB hA hB := tb_Q_new eB
theorem t_C : TB hB hC := mkn_tb (by exact trivial) eC
theorem t_D : TB hC hD := tb_M_new eD
theorem hD_TB : TB h00 hD := TB.tr (TB.tr (TB.tr t_A t_B) t_C) t_D
theorem TB_TL {h : mH} (t : TB h00 h) (n : h.1 = 126) : TL h := t.2.1 (Nat.le_of_eq n) (fun _ _ => rfl)
theorem TB_RA {h : mH} (t : TB h00 h) {k t' n : Nat} {f : Nat → Option Nat} (e : h.2.2 k = .inl (t', n, .inr (.inr (.inr (.inr f))))) : ∀ j, n ≤ j → f j = none := by
  have r := t.2.2 (fun _ => trivial) k
  rw [e] at r
  exact r
theorem nD1 : hD.1 = 126 := nD.1
theorem nD2 : hD.2.1 = 27134 := nD.2
theorem hD_TL : TL hD := @TB_TL hD hD_TB nD1
end
/-! 91.shape -/
section
/-- shapes -/
def shv : Value → Value → Bool
  | .int _, .int _ => true
  | .long _, .long _ => true
  | .ref a, .ref b => Nat.beq a b
  | _, _ => false
def shl : List Value → List Value → Bool
  | [], [] => true
  | a :: as, b :: bs => shv a b && shl as bs
  | _, _ => false
def shc : mCell → mCell → Bool
  | .inr (c, fs), .inr (d, gs) => Nat.beq c d && shl fs gs
  | .inl (t, n, .inl _), .inl (t', n', .inl _) => Nat.beq t t' && Nat.beq n n'
  | .inl (t, n, .inr (.inl _)), .inl (t', n', .inr (.inl _)) => Nat.beq t t' && Nat.beq n n'
  | _, _ => false
def vOf : mCell → Nat → Int32
  | .inl (_, _, .inl f) => f
  | .inr (_, fs) => fun i => match fs[i]? with | some (.int x) => x | _ => 0
  | _ => fun _ => 0
def wOf : mCell → Nat → Int64
  | .inl (_, _, .inr (.inl f)) => f
  | .inr (_, fs) => fun i => match fs[i]? with | some (.long x) => x | _ => 0
  | _ => fun _ => 0
def rOf : mCell → Nat → Option Nat
  | .inl (_, _, .inr (.inr (.inr (.inr f)))) => f
  | _ => fun _ => none
def shr (t n : Nat) : mCell → Bool
  | .inl (t', n', .inr (.inr (.inr (.inr _)))) => Nat.beq t t' && Nat.beq n n'
  | _ => false
theorem fillv_sh {v : Nat → Int32} {w : Nat → Int64} : ∀ (fs gs : List Value) (i : Nat), shl fs gs = true → (∀ j x, gs[j]? = some (.int x) → v (i + j) = x) → (∀ j x, gs[j]? = some (.long x) → w (i + j) = x) → fillv v w i fs = gs := by
  intro fs
  induction fs with
  | nil => intro gs i h _ _; cases gs with
    | nil => rfl
    | cons _ _ => cases h
  | cons f fs ih =>
    intro gs i h hv hw
    cases gs with
    | nil => cases h
    | cons g gs =>
      have h2 : shv f g = true ∧ shl fs gs = true := by simpa [shl] using h
      have e := ih gs (i + 1) h2.2 (fun j x q => by have := hv (j + 1) x (by simpa using q); rwa [show i + 1 + j = i + (j + 1) by omega]) (fun j x q => by have := hw (j + 1) x (by simpa using q); rwa [show i + 1 + j = i + (j + 1) by omega])
      simp only [fillv]
      rw [e]
      congr 1
      have hv0 := hv 0
      have hw0 := hw 0
      have h3 := h2.1
      cases f <;> cases g <;> simp_all [shv]
theorem fill_sh {a b : mCell} (h : shc a b = true) : fillc (vOf b) (wOf b) a = b := by
  unfold shc at h
  split at h
  · next c fs d gs =>
    simp only [Bool.and_eq_true, Nat.beq_eq] at h
    obtain ⟨rfl, h⟩ := h
    show Sum.inr (c, fillv _ _ 0 fs) = _
    rw [fillv_sh fs gs 0 h (fun j x q => by show (match gs[0 + j]? with | some (.int x) => x | _ => 0) = x; rw [Nat.zero_add, q]) (fun j x q => by show (match gs[0 + j]? with | some (.long x) => x | _ => 0) = x; rw [Nat.zero_add, q])]
  · simp only [Bool.and_eq_true, Nat.beq_eq] at h
    obtain ⟨rfl, rfl⟩ := h
    rfl
  · simp only [Bool.and_eq_true, Nat.beq_eq] at h
    obtain ⟨rfl, rfl⟩ := h
    rfl
  · cases h
theorem shr_of {t n : Nat} {c : mCell} (h : shr t n c = true) : c = .inl (t, n, .inr (.inr (.inr (.inr (rOf c))))) := by
  unfold shr at h
  split at h
  · simp only [Bool.and_eq_true, Nat.beq_eq] at h
    obtain ⟨rfl, rfl⟩ := h
    rfl
  · cases h
theorem tm_dead {k : Nat} (h : 126 ≤ k) : tm k = dead := by
  unfold tm
  rw [List.getD_eq_getElem?_getD, List.getElem?_eq_none (show tl.length ≤ k from h)]
  rfl
def allB (p : Nat → Bool) : Nat → Bool
  | 0 => true
  | n + 1 => p n && allB p n
theorem allB_of {p : Nat → Bool} : ∀ {n : Nat}, allB p n = true → ∀ k, k < n → p k = true
  | 0, _, k, hk => absurd hk (Nat.not_lt_zero k)
  | n + 1, h, k, hk => by
    have h2 : p n = true ∧ allB p n = true := by simpa [allB] using h
    by_cases e : k = n
    · subst e; exact h2.1
    · exact allB_of h2.2 k (by omega)
theorem sh_hDb : allB (fun k => Nat.beq k 37 || Nat.beq k 39 || shc (tm k) (hD.2.2 k)) 126 = true := by decide +kernel
theorem sh_hD (k : Nat) (hk : k < 126) : k = 37 ∨ k = 39 ∨ shc (tm k) (hD.2.2 k) = true := by
  have := allB_of sh_hDb k hk
  simp only [Bool.or_eq_true, Nat.beq_eq] at this
  rcases this with (h | h) | h
  · exact Or.inl h
  · exact Or.inr (Or.inl h)
  · exact Or.inr (Or.inr h)
theorem sh_37 : shr 4 2 (hD.2.2 37) = true ∧ rOf (hD.2.2 37) 0 = some 58 ∧ rOf (hD.2.2 37) 1 = some 75 := by decide +kernel
theorem sh_39 : shr 5 4 (hD.2.2 39) = true ∧ rOf (hD.2.2 39) 0 = some 92 ∧ rOf (hD.2.2 39) 1 = some 94 ∧ rOf (hD.2.2 39) 2 = some 96 ∧ rOf (hD.2.2 39) 3 = some 98 := by decide +kernel
end
/-! 92.first -/
section
theorem bh_of {h : mH} (n1 : h.1 = 126) (n2 : h.2.1 = 27134) (tl : TL h) (sh : ∀ k, k < 126 → k = 37 ∨ k = 39 ∨ shc (tm k) (h.2.2 k) = true) (s37 : shr 4 2 (h.2.2 37) = true ∧ rOf (h.2.2 37) 0 = some 58 ∧ rOf (h.2.2 37) 1 = some 75) (s39 : shr 5 4 (h.2.2 39) = true ∧ rOf (h.2.2 39) 0 = some 92 ∧ rOf (h.2.2 39) 1 = some 94 ∧ rOf (h.2.2 39) 2 = some 96 ∧ rOf (h.2.2 39) 3 = some 98) (tb : TB h00 h) : h = bh (fun k => vOf (h.2.2 k)) (fun k => wOf (h.2.2 k)) := by
  have e : h.2.2 = (bh (fun k => vOf (h.2.2 k)) (fun k => wOf (h.2.2 k))).2.2 := by
    funext k
    show h.2.2 k = fillc (vOf (h.2.2 k)) (wOf (h.2.2 k)) (tm k)
    by_cases hk : k < 126
    · rcases sh k hk with rfl | rfl | q
      · have e1 := shr_of s37.1
        have r : ∀ j, 2 ≤ j → rOf (h.2.2 37) j = none := TB_RA tb e1
        have e2 : rOf (h.2.2 37) = fun j => ([some 58, some 75] : List (Option Nat)).getD j none := by
          funext j
          rcases (show j = 0 ∨ j = 1 ∨ 2 ≤ j by omega) with rfl | rfl | hj
          · exact s37.2.1
          · exact s37.2.2
          · rw [r j hj, List.getD_eq_getElem?_getD, List.getElem?_eq_none (show ([some 58, some 75] : List (Option Nat)).length ≤ j from hj)]
            rfl
        rw [e2] at e1
        exact e1
      · have e1 := shr_of s39.1
        have r : ∀ j, 4 ≤ j → rOf (h.2.2 39) j = none := TB_RA tb e1
        have e2 : rOf (h.2.2 39) = fun j => ([some 92, some 94, some 96, some 98] : List (Option Nat)).getD j none := by
          funext j
          rcases (show j = 0 ∨ j = 1 ∨ j = 2 ∨ j = 3 ∨ 4 ≤ j by omega) with rfl | rfl | rfl | rfl | hj
          · exact s39.2.1
          · exact s39.2.2.1
          · exact s39.2.2.2.1
          · exact s39.2.2.2.2
          · rw [r j hj, List.getD_eq_getElem?_getD, List.getElem?_eq_none (show ([some 92, some 94, some 96, some 98] : List (Option Nat)).length ≤ j from hj)]
            rfl
        rw [e2] at e1
        exact e1
      · exact (fill_sh q).symm
    · rw [tm_dead (by omega), tl k (by omega)]
      rfl
  exact Prod.ext n1 (Prod.ext n2 e)
theorem law_of {hA hB hC hD : mH} (eA : mkn h00 10 (.inr (0, [.null, .null, .null, .null, .null, .null, .null, .null, .null, .int 0])) = some hA) (nxA : hA.1 = 1) (eB : f_Q_new 0 hA = some hB) (nxB : hB.1 = 100) (eC : mkn hB 39 (.inr (8, [.null, .null, .int 0, .int 0, .null, .null, .null, .null, .null, .null, .int 0, .int 0, .null, .null, .null, .null, .null, .int 0, .int 0, .null, .int 0, .int 0, .int 0, .int 0, .int 0, .int 0, .int 0, .null, .null, .null, .null, .null, .null, .null, .null, .null, .null, .null, .int 0])) = some hC) (nxC : hC.1 = 101) (eD : f_M_new 100 hC = some hD) (nD : hD.1 = 126) (sc : Nat × (Nat → Int32)) : f_QuotaLawsLaw_law sc h00 = f_QuotaLawsLaw_law_18 sc FU 0 100 0 hD := by
  unfold f_QuotaLawsLaw_law f_QuotaLawsLaw_law_0 grd
  rw [eA, bd1_s, nxA, show h00.1 = 0 from rfl, if_pos (show 0 < 1 by decide), eB, bd1_s, nxB, if_pos (show 100 ≤ 1000 by decide), if_pos (show ¬ 0 = 100 by decide), eC, bd1_s, nxC, if_pos (show 0 < 101 ∧ 100 < 101 by decide), eD, bd1_s, nD, if_pos (show 126 ≤ 1000 by decide)]
def ρ0 : Rho := fun _ _ => 0
def X0 : Nat → Nat → Int := fun a _ => if a = 4 then -4 else 0
def S0 : Sg := (ρ0, fun _ => ρ0, X0)
theorem ROK0 : ROK ρ0 := ⟨⟨by decide, by decide, by decide, by decide, by decide, by decide, by decide⟩, fun _ h => absurd h (Nat.not_lt_zero _), fun _ h => absurd h (Nat.not_lt_zero _), fun _ _ h => absurd h (Nat.not_lt_zero _), fun _ h => absurd h (Nat.not_lt_zero _)⟩
theorem SOK0 : SOK S0 := ⟨ROK0, fun _ _ => Or.inl rfl, ⟨by decide, by decide⟩, fun j h => absurd h (show ¬ ((j : Int) < 0) by omega), ⟨by decide, by decide⟩, fun _ _ => ⟨Or.inl rfl, Int.le_refl 0, show (0 : Int) ≤ 40 by decide⟩⟩
theorem CI0 {v : Nat → Nat → Int32} (a : v 3 0 = 0 ∧ v 3 1 = 0 ∧ v 3 2 = 0 ∧ v 3 3 = 0 ∧ v 3 4 = 0 ∧ v 3 5 = 0 ∧ v 16 0 = 0) (b : v 38 0 = 0 ∧ v 38 1 = 0 ∧ v 1 1 = 0 ∧ v 1 2 = 0 ∧ v 0 9 = 0 ∧ v 43 0 = 0) (c : ∀ k, k < 4 → v (92 + 2 * k) 0 = -4 ∧ ∀ i, i < 40 → v (93 + 2 * k) i = 0) : CI S0 v := by
  have no : ∀ {n : Nat} {p : Prop}, n < ρ0 0 0 → p := fun h => absurd h (Nat.not_lt_zero _)
  refine ⟨⟨⟨a.1, a.2.1, a.2.2.1, a.2.2.2.1, a.2.2.2.2.1, a.2.2.2.2.2.1, a.2.2.2.2.2.2⟩, fun _ h => no h, fun _ h => no h, fun _ _ h => no h, fun _ h => no h⟩, fun k hk => ⟨?_, fun z => absurd z (show ¬ ((0 : Int) = 1) by decide)⟩, b.2.2.1, fun j h => absurd h (show ¬ ((j : Int) < 0) by omega), b.2.2.2.1, fun k hk => ⟨(c k hk).1, fun z => absurd rfl z, fun i hi => (c k hk).2 i hi⟩, b.2.2.2.2⟩
  rcases (show k = 0 ∨ k = 1 by omega) with rfl | rfl
  · exact b.1
  · exact b.2.1
theorem MI0 {v : Nat → Nat → Int32} (a : v 100 2 = 0 ∧ v 100 3 = 0 ∧ v 101 10 = 0 ∧ v 101 11 = 0 ∧ v 101 39 = 0 ∧ v 101 40 = 0 ∧ v 101 41 = 0) (b : v 102 0 = 0 ∧ v 102 1 = 0 ∧ v 100 20 = 0 ∧ v 100 25 = 0 ∧ v 100 38 = 0) (c : ∀ k, k < 4 → v 123 k = -4 ∧ v 124 k = 0 ∧ ∀ i, i < 40 → v 125 (40 * k + i) = 0) : MI S0 v := by
  have no : ∀ {n : Nat} {p : Prop}, n < ρ0 0 0 → p := fun h => absurd h (Nat.not_lt_zero _)
  refine ⟨⟨⟨a.1, a.2.1, fun _ h => no h, fun _ h => no h⟩, fun _ h => no h, fun _ h => no h, a.2.2.1, a.2.2.2.1, fun _ h => no h, fun _ h => no h, fun _ h => no h, fun _ h => no h, fun _ _ h => no h, a.2.2.2.2.1, a.2.2.2.2.2.1, a.2.2.2.2.2.2, fun _ h => no h⟩, fun k hk => ⟨?_, fun z => absurd z (show ¬ ((0 : Int) = 1) by decide)⟩, b.2.2.1, fun j h => absurd h (show ¬ ((j : Int) < 0) by omega), b.2.2.2.1, fun k hk => ⟨(c k hk).1, (c k hk).2.1, fun i hi => (c k hk).2.2 i hi⟩, b.2.2.2.2⟩
  rcases (show k = 0 ∨ k = 1 by omega) with rfl | rfl
  · exact b.1
  · exact b.2.1
def v0 (k : Nat) : Nat → Int32 := vOf (hD.2.2 k)
def w0 (k : Nat) : Nat → Int64 := wOf (hD.2.2 k)
theorem nxA : hA.1 = 1 := by decide +kernel
theorem c_a : v0 3 0 = 0 ∧ v0 3 1 = 0 ∧ v0 3 2 = 0 ∧ v0 3 3 = 0 ∧ v0 3 4 = 0 ∧ v0 3 5 = 0 ∧ v0 16 0 = 0 := by decide +kernel
theorem c_b : v0 38 0 = 0 ∧ v0 38 1 = 0 ∧ v0 1 1 = 0 ∧ v0 1 2 = 0 ∧ v0 0 9 = 0 ∧ v0 43 0 = 0 := by decide +kernel
theorem c_c : ∀ k, k < 4 → v0 (92 + 2 * k) 0 = -4 ∧ ∀ i, i < 40 → v0 (93 + 2 * k) i = 0 := by decide +kernel
theorem m_a : v0 100 2 = 0 ∧ v0 100 3 = 0 ∧ v0 101 10 = 0 ∧ v0 101 11 = 0 ∧ v0 101 39 = 0 ∧ v0 101 40 = 0 ∧ v0 101 41 = 0 := by decide +kernel
theorem m_b : v0 102 0 = 0 ∧ v0 102 1 = 0 ∧ v0 100 20 = 0 ∧ v0 100 25 = 0 ∧ v0 100 38 = 0 := by decide +kernel
theorem m_c : ∀ k, k < 4 → v0 123 k = -4 ∧ v0 124 k = 0 ∧ ∀ i, i < 40 → v0 125 (40 * k + i) = 0 := by decide +kernel
theorem first : ∃ (h : mH) (v : Nat → Nat → Int32) (w : Nat → Nat → Int64), h = hD ∧ h = bh v w ∧ (∀ sc, f_QuotaLawsLaw_law sc h00 = f_QuotaLawsLaw_law_18 sc FU 0 100 0 h) ∧ CI S0 v ∧ MI S0 v :=
  ⟨hD, v0, w0, rfl, @bh_of hD nD1 nD2 hD_TL sh_hD sh_37 sh_39 hD_TB, @law_of hA hB hC hD eA nxA eB nxB eC nxC eD nD1, @CI0 v0 c_a c_b c_c, @MI0 v0 m_a m_b m_c⟩
end
/-! 94.step -/
section
/-! one turn of the law's loop: printed by wip/gen/gen_step.py -/
def St {α : Type} (h : mH) (K : mH → Prop) (fq fm : mH → Option (α × mH)) : Prop := ∃ (r : α) (h1 h2 : mH), fq h = some (r, h1) ∧ kC h1 100 8 = some () ∧ fm h1 = some (r, h2) ∧ K h2
def Sf {α : Type} (h : mH) (K : mH → Prop) (fq fm : mH → Option (α × mH)) : Prop := ∃ (r r' : α) (h1 h2 : mH), fq h = some (r, h1) ∧ kC h1 100 8 = some () ∧ fm h1 = some (r', h2) ∧ K h2
theorem St.f {α : Type} {h : mH} {K : mH → Prop} {fq fm : mH → Option (α × mH)} (x : St h K fq fm) : Sf h K fq fm := by
  obtain ⟨r, h1, h2, e⟩ := x
  exact ⟨r, r, h1, h2, e⟩
theorem cmp_self (a : Int64) : lg_cmp a a = 0 := by
  unfold lg_cmp
  rw [if_neg (show ¬ a > a from Int64.lt_irrefl), if_pos rfl]
theorem sX_nI {sc : Nat × (Nat → Int32)} {i : Nat} (hi : i < sc.1) (hN : sc.1 ≤ 320) : sX sc (nI i) = some (sc.2 i) := by
  unfold sX
  rw [if_pos (nI_in hi (by omega)), nI_clamp (by omega)]
theorem nI_lit (i : Nat) : nI i + (1 : Int32) = nI (i + 1) ∧ nI i + (2 : Int32) = nI (i + 2) ∧ nI i + (3 : Int32) = nI (i + 3) ∧ nI i + (4 : Int32) = nI (i + 4) ∧ nI i + (5 : Int32) = nI (i + 5) := by
  refine ⟨?_, ?_, ?_, ?_, ?_⟩ <;> exact nI_add _ _
theorem law_cond {n i : Nat} (hn : n ≤ 320) (hi : i ≤ 320) : (Int32.ofNat n) - (5 : Int32) < nI i ↔ n < i + 5 := by
  have e : (Int32.ofNat n) - (5 : Int32) = zI ((n : Int) - 5) := by
    rw [show Int32.ofNat n = nI n from rfl, ← zI_n]
    exact zI_sub _ 5
  rw [e, Int32.lt_iff_toInt_lt, zI_t (by omega) (by omega), nI_toInt (by omega)]
  omega
set_option maxRecDepth 20000 in
theorem step {sc : Nat × (Nat → Int32)} {i : Nat} (hi : i + 5 ≤ sc.1) (hN : sc.1 ≤ 320) (rec : Nat → Nat → Int32 → mH → Option (Int32 × mH)) {h : mH} {K : mH → Prop} (hk : kC h 0 0 = some ()) (h0 : K h) (e0 : ∀ x : Int32, Sf h K (f_Q_feed 0 x) (f_M_feed 100 x)) (e1 : ∀ x : Int32, Sf h K (f_Q_end 0 x) (f_M_end 100 x)) (e2 : Sf h K (f_Q_text 0) (f_M_text 100)) (e3 : Sf h K (f_Q_fault 0) (f_M_fault 100)) (e4 : ∀ x : Int32, Sf h K (f_Q_rule 0 x) (f_M_rule 100 x)) (e5 : ∀ x y : Int32, Sf h K (f_Q_law 0 x y) (f_M_law 100 x y)) (e6 : ∀ x y : Int32, Sf h K (f_Q_one 0 x y) (f_M_one 100 x y)) (e7 : ∀ x y : Int32, Sf h K (f_Q_broken 0 x y) (f_M_broken 100 x y)) (e8 : ∀ x y : Int32, Sf h K (f_Q_quota 0 x y) (f_M_quota 100 x y)) (e9 : ∀ x y : Int32, Sf h K (f_Q_carry 0 x y) (f_M_carry 100 x y)) (e10 : ∀ x y : Int32, Sf h K (f_Q_watch 0 x y) (f_M_watch 100 x y)) (e11 : ∀ x y : Int32, Sf h K (f_Q_time 0 x y) (f_M_time 100 x y)) (e12 : ∀ x y z : Int32, Sf h K (f_Q_refuse 0 x y z) (f_M_refuse 100 x y z)) (e13 : ∀ x y z : Int32, Sf h K (f_Q_want 0 x y z) (f_M_want 100 x y z)) (e14 : ∀ x y : Int32, Sf h K (f_Q_fund 0 x y) (f_M_fund 100 x y)) (e15 : ∀ x : Int32, Sf h K (f_Q_revive 0 x) (f_M_revive 100 x)) (e16 : ∀ x y : Int32, Sf h K (f_Q_breaks 0 x y) (f_M_breaks 100 x y)) (e17 : Sf h K (f_Q_year 0) (f_M_year 100)) (e18 : Sf h K (f_Q_falls 0) (f_M_falls 100)) (e19 : ∀ x : Int32, Sf h K (f_Q_most 0 x) (f_M_most 100 x)) (e20 : ∀ x : Int32, Sf h K (f_Q_rota 0 x) (f_M_rota 100 x)) (e21 : ∀ x : Int32, Sf h K (f_Q_more 0 x) (f_M_more 100 x)) (e22 : ∀ x : Int32, Sf h K (f_Q_together 0 x) (f_M_together 100 x)) (e23 : ∀ x y : Int32, Sf h K (f_Q_kill 0 x y) (f_M_kill 100 x y)) (e24 : ∀ x : Int32, Sf h K (f_Q_selfish 0 x) (f_M_selfish 100 x)) (e25 : ∀ x y : Int32, Sf h K (f_Q_luck 0 x y) (f_M_luck 100 x y)) (e26 : ∀ x y z : Int32, Sf h K (f_Q_see 0 x y z) (f_M_see 100 x y z)) (e27 : ∀ x : Int32, Sf h K (f_Q_forget 0 x) (f_M_forget 100 x)) (e28 : Sf h K (f_Q_books 0) (f_M_books 100)) (e29 : ∀ x y z : Int32, Sf h K (f_Q_entry 0 x y z) (f_M_entry 100 x y z)) (e30 : ∀ x y z : Int32, Sf h K (f_Q_wild 0 x y z) (f_M_wild 100 x y z)) (e31 : ∀ x : Int32, Sf h K (f_Q_keep 0 x) (f_M_keep 100 x)) (e32 : ∀ x : Int32, Sf h K (f_Q_back 0 x) (f_M_back 100 x)) (e33 : ∀ x y z : Int32, Sf h K (f_Q_sheet 0 x y z) (f_M_sheet 100 x y z)) (e34 : ∀ x y z : Int32, Sf h K (f_Q_lay 0 x y z) (f_M_lay 100 x y z)) (e35 : ∀ x y z t : Int32, Sf h K (f_Q_read 0 x y z t) (f_M_read 100 x y z t)) (e36 : Sf h K (f_Q_torn 0) (f_M_torn 100)) (e37 : ∀ x : Int32, St h K (f_Q_count 0 x) (f_M_count 100 x)) : ∃ h2, K h2 ∧ f_QuotaLawsLaw_law_18b sc rec 0 100 (nI i) h = rec 0 100 (nI (i + 5)) h2 := by
  obtain ⟨l1, l2, l3, l4, l5⟩ := nI_lit i
  have x0 := sX_nI (sc := sc) (i := i) (by omega) hN
  have x1 := sX_nI (sc := sc) (i := i + 1) (by omega) hN
  have x2 := sX_nI (sc := sc) (i := i + 2) (by omega) hN
  have x3 := sX_nI (sc := sc) (i := i + 3) (by omega) hN
  have x4 := sX_nI (sc := sc) (i := i + 4) (by omega) hN
  unfold f_QuotaLawsLaw_law_18b
  rw [if_neg (fun z => by have := (law_cond hN (by omega)).mp z; omega), x0, bd1_s]
  generalize sc.2 i &&& (63 : Int32) = oc
  by_cases c0 : oc = (0 : Int32)
  · rw [if_pos c0]
    simp only [l1, l2, l3, l4, x1, x2, x3, x4, bd1_s]
    unfold f_QuotaLawsLaw_law_1342
    obtain ⟨r, r', h1, h2, a1, a2, a3, a4⟩ := e0 (sc.2 (i + 1))
    refine ⟨h2, a4, ?_⟩
    simp only [hk, bd1_s, a1, bd2_s, a2, a3]
    rw [l5]
  rw [if_neg c0]
  by_cases c1 : oc = (1 : Int32)
  · rw [if_pos c1]
    simp only [l1, l2, l3, l4, x1, x2, x3, x4, bd1_s]
    unfold f_QuotaLawsLaw_law_1342
    obtain ⟨r, r', h1, h2, a1, a2, a3, a4⟩ := e1 (sc.2 (i + 1))
    refine ⟨h2, a4, ?_⟩
    simp only [hk, bd1_s, a1, bd2_s, a2, a3]
    rw [l5]
  rw [if_neg c1]
  by_cases c2 : oc = (2 : Int32)
  · rw [if_pos c2]
    skip
    unfold f_QuotaLawsLaw_law_1342
    obtain ⟨r, r', h1, h2, a1, a2, a3, a4⟩ := e2
    refine ⟨h2, a4, ?_⟩
    simp only [hk, bd1_s, a1, bd2_s, a2, a3]
    rw [l5]
  rw [if_neg c2]
  by_cases c3 : oc = (3 : Int32)
  · rw [if_pos c3]
    skip
    unfold f_QuotaLawsLaw_law_1342
    obtain ⟨r, r', h1, h2, a1, a2, a3, a4⟩ := e3
    refine ⟨h2, a4, ?_⟩
    simp only [hk, bd1_s, a1, bd2_s, a2, a3]
    rw [l5]
  rw [if_neg c3]
  by_cases c4 : oc = (4 : Int32)
  · rw [if_pos c4]
    simp only [l1, l2, l3, l4, x1, x2, x3, x4, bd1_s]
    unfold f_QuotaLawsLaw_law_1342
    obtain ⟨r, r', h1, h2, a1, a2, a3, a4⟩ := e4 (sc.2 (i + 1))
    refine ⟨h2, a4, ?_⟩
    simp only [hk, bd1_s, a1, bd2_s, a2, a3]
    rw [l5]
  rw [if_neg c4]
  by_cases c5 : oc = (5 : Int32)
  · rw [if_pos c5]
    simp only [l1, l2, l3, l4, x1, x2, x3, x4, bd1_s]
    unfold f_QuotaLawsLaw_law_1342
    obtain ⟨r, r', h1, h2, a1, a2, a3, a4⟩ := e5 (sc.2 (i + 1)) (sc.2 (i + 2))
    refine ⟨h2, a4, ?_⟩
    simp only [hk, bd1_s, a1, bd2_s, a2, a3]
    rw [l5]
  rw [if_neg c5]
  by_cases c6 : oc = (6 : Int32)
  · rw [if_pos c6]
    simp only [l1, l2, l3, l4, x1, x2, x3, x4, bd1_s]
    unfold f_QuotaLawsLaw_law_1342
    obtain ⟨r, r', h1, h2, a1, a2, a3, a4⟩ := e6 (sc.2 (i + 1)) (sc.2 (i + 2))
    refine ⟨h2, a4, ?_⟩
    simp only [hk, bd1_s, a1, bd2_s, a2, a3]
    rw [l5]
  rw [if_neg c6]
  by_cases c7 : oc = (7 : Int32)
  · rw [if_pos c7]
    simp only [l1, l2, l3, l4, x1, x2, x3, x4, bd1_s]
    unfold f_QuotaLawsLaw_law_1342
    obtain ⟨r, r', h1, h2, a1, a2, a3, a4⟩ := e7 (sc.2 (i + 1)) (sc.2 (i + 2))
    refine ⟨h2, a4, ?_⟩
    simp only [hk, bd1_s, a1, bd2_s, a2, a3]
    rw [l5]
  rw [if_neg c7]
  by_cases c8 : oc = (8 : Int32)
  · rw [if_pos c8]
    simp only [l1, l2, l3, l4, x1, x2, x3, x4, bd1_s]
    unfold f_QuotaLawsLaw_law_1342
    obtain ⟨r, r', h1, h2, a1, a2, a3, a4⟩ := e8 (sc.2 (i + 1)) (sc.2 (i + 2))
    refine ⟨h2, a4, ?_⟩
    simp only [hk, bd1_s, a1, bd2_s, a2, a3]
    rw [l5]
  rw [if_neg c8]
  by_cases c9 : oc = (9 : Int32)
  · rw [if_pos c9]
    simp only [l1, l2, l3, l4, x1, x2, x3, x4, bd1_s]
    unfold f_QuotaLawsLaw_law_1342
    obtain ⟨r, r', h1, h2, a1, a2, a3, a4⟩ := e9 (sc.2 (i + 1)) (sc.2 (i + 2))
    refine ⟨h2, a4, ?_⟩
    simp only [hk, bd1_s, a1, bd2_s, a2, a3]
    rw [l5]
  rw [if_neg c9]
  by_cases c10 : oc = (10 : Int32)
  · rw [if_pos c10]
    simp only [l1, l2, l3, l4, x1, x2, x3, x4, bd1_s]
    by_cases z0 : sc.2 (i + 2) = 0
    · rw [if_pos z0]
      unfold f_QuotaLawsLaw_law_479 f_QuotaLawsLaw_law_502 f_QuotaLawsLaw_law_1342
      simp only [l1, l2, l3, l4, x1, x2, x3, x4, bd1_s, hk]
      obtain ⟨r, r', h1, h2, a1, a2, a3, a4⟩ := e10 (sc.2 (i + 1)) 0
      refine ⟨h2, a4, ?_⟩
      simp only [bd1_s, a1, bd2_s, if_pos z0, a2, a3]
      rw [l5]
    · rw [if_neg z0]
      unfold f_QuotaLawsLaw_law_479 f_QuotaLawsLaw_law_502 f_QuotaLawsLaw_law_1342
      simp only [l1, l2, l3, l4, x1, x2, x3, x4, bd1_s, hk]
      obtain ⟨r, r', h1, h2, a1, a2, a3, a4⟩ := e10 (sc.2 (i + 1)) 1
      refine ⟨h2, a4, ?_⟩
      simp only [bd1_s, a1, bd2_s, if_neg z0, a2, a3]
      rw [l5]
  rw [if_neg c10]
  by_cases c11 : oc = (11 : Int32)
  · rw [if_pos c11]
    simp only [l1, l2, l3, l4, x1, x2, x3, x4, bd1_s]
    unfold f_QuotaLawsLaw_law_1342
    obtain ⟨r, r', h1, h2, a1, a2, a3, a4⟩ := e11 (sc.2 (i + 1)) (sc.2 (i + 2))
    refine ⟨h2, a4, ?_⟩
    simp only [hk, bd1_s, a1, bd2_s, a2, a3]
    rw [l5]
  rw [if_neg c11]
  by_cases c12 : oc = (12 : Int32)
  · rw [if_pos c12]
    simp only [l1, l2, l3, l4, x1, x2, x3, x4, bd1_s]
    by_cases z0 : sc.2 (i + 3) = 0
    · rw [if_pos z0]
      unfold f_QuotaLawsLaw_law_566 f_QuotaLawsLaw_law_594 f_QuotaLawsLaw_law_1342
      simp only [l1, l2, l3, l4, x1, x2, x3, x4, bd1_s, hk]
      obtain ⟨r, r', h1, h2, a1, a2, a3, a4⟩ := e12 (sc.2 (i + 1)) (sc.2 (i + 2)) 0
      refine ⟨h2, a4, ?_⟩
      simp only [bd1_s, a1, bd2_s, if_pos z0, a2, a3]
      rw [l5]
    · rw [if_neg z0]
      unfold f_QuotaLawsLaw_law_566 f_QuotaLawsLaw_law_594 f_QuotaLawsLaw_law_1342
      simp only [l1, l2, l3, l4, x1, x2, x3, x4, bd1_s, hk]
      obtain ⟨r, r', h1, h2, a1, a2, a3, a4⟩ := e12 (sc.2 (i + 1)) (sc.2 (i + 2)) 1
      refine ⟨h2, a4, ?_⟩
      simp only [bd1_s, a1, bd2_s, if_neg z0, a2, a3]
      rw [l5]
  rw [if_neg c12]
  by_cases c13 : oc = (13 : Int32)
  · rw [if_pos c13]
    simp only [l1, l2, l3, l4, x1, x2, x3, x4, bd1_s]
    by_cases z0 : sc.2 (i + 3) = 0
    · rw [if_pos z0]
      unfold f_QuotaLawsLaw_law_625 f_QuotaLawsLaw_law_653 f_QuotaLawsLaw_law_1342
      simp only [l1, l2, l3, l4, x1, x2, x3, x4, bd1_s, hk]
      obtain ⟨r, r', h1, h2, a1, a2, a3, a4⟩ := e13 (sc.2 (i + 1)) (sc.2 (i + 2)) 0
      refine ⟨h2, a4, ?_⟩
      simp only [bd1_s, a1, bd2_s, if_pos z0, a2, a3]
      rw [l5]
    · rw [if_neg z0]
      unfold f_QuotaLawsLaw_law_625 f_QuotaLawsLaw_law_653 f_QuotaLawsLaw_law_1342
      simp only [l1, l2, l3, l4, x1, x2, x3, x4, bd1_s, hk]
      obtain ⟨r, r', h1, h2, a1, a2, a3, a4⟩ := e13 (sc.2 (i + 1)) (sc.2 (i + 2)) 1
      refine ⟨h2, a4, ?_⟩
      simp only [bd1_s, a1, bd2_s, if_neg z0, a2, a3]
      rw [l5]
  rw [if_neg c13]
  by_cases c14 : oc = (14 : Int32)
  · rw [if_pos c14]
    simp only [l1, l2, l3, l4, x1, x2, x3, x4, bd1_s]
    unfold f_QuotaLawsLaw_law_1342
    obtain ⟨r, r', h1, h2, a1, a2, a3, a4⟩ := e14 (sc.2 (i + 1)) (sc.2 (i + 2))
    refine ⟨h2, a4, ?_⟩
    simp only [hk, bd1_s, a1, bd2_s, a2, a3]
    rw [l5]
  rw [if_neg c14]
  by_cases c15 : oc = (15 : Int32)
  · rw [if_pos c15]
    simp only [l1, l2, l3, l4, x1, x2, x3, x4, bd1_s]
    unfold f_QuotaLawsLaw_law_1342
    obtain ⟨r, r', h1, h2, a1, a2, a3, a4⟩ := e15 (sc.2 (i + 1))
    refine ⟨h2, a4, ?_⟩
    simp only [hk, bd1_s, a1, bd2_s, a2, a3]
    rw [l5]
  rw [if_neg c15]
  by_cases c16 : oc = (16 : Int32)
  · rw [if_pos c16]
    simp only [l1, l2, l3, l4, x1, x2, x3, x4, bd1_s]
    unfold f_QuotaLawsLaw_law_1342
    obtain ⟨r, r', h1, h2, a1, a2, a3, a4⟩ := e16 (sc.2 (i + 1)) (sc.2 (i + 2))
    refine ⟨h2, a4, ?_⟩
    simp only [hk, bd1_s, a1, bd2_s, a2, a3]
    rw [l5]
  rw [if_neg c16]
  by_cases c17 : oc = (17 : Int32)
  · rw [if_pos c17]
    skip
    unfold f_QuotaLawsLaw_law_1342
    obtain ⟨r, r', h1, h2, a1, a2, a3, a4⟩ := e17
    refine ⟨h2, a4, ?_⟩
    simp only [hk, bd1_s, a1, bd2_s, a2, a3]
    rw [l5]
  rw [if_neg c17]
  by_cases c18 : oc = (18 : Int32)
  · rw [if_pos c18]
    skip
    unfold f_QuotaLawsLaw_law_1342
    obtain ⟨r, r', h1, h2, a1, a2, a3, a4⟩ := e18
    refine ⟨h2, a4, ?_⟩
    simp only [hk, bd1_s, a1, bd2_s, a2, a3]
    rw [l5]
  rw [if_neg c18]
  by_cases c19 : oc = (19 : Int32)
  · rw [if_pos c19]
    simp only [l1, l2, l3, l4, x1, x2, x3, x4, bd1_s]
    unfold f_QuotaLawsLaw_law_1342
    obtain ⟨r, r', h1, h2, a1, a2, a3, a4⟩ := e19 (sc.2 (i + 1))
    refine ⟨h2, a4, ?_⟩
    simp only [hk, bd1_s, a1, bd2_s, a2, a3]
    rw [l5]
  rw [if_neg c19]
  by_cases c20 : oc = (20 : Int32)
  · rw [if_pos c20]
    simp only [l1, l2, l3, l4, x1, x2, x3, x4, bd1_s]
    unfold f_QuotaLawsLaw_law_1342
    obtain ⟨r, r', h1, h2, a1, a2, a3, a4⟩ := e20 (sc.2 (i + 1))
    refine ⟨h2, a4, ?_⟩
    simp only [hk, bd1_s, a1, bd2_s, a2, a3]
    rw [l5]
  rw [if_neg c20]
  by_cases c21 : oc = (21 : Int32)
  · rw [if_pos c21]
    simp only [l1, l2, l3, l4, x1, x2, x3, x4, bd1_s]
    unfold f_QuotaLawsLaw_law_1342
    obtain ⟨r, r', h1, h2, a1, a2, a3, a4⟩ := e21 (sc.2 (i + 1))
    refine ⟨h2, a4, ?_⟩
    simp only [hk, bd1_s, a1, bd2_s, a2, a3]
    rw [l5]
  rw [if_neg c21]
  by_cases c22 : oc = (22 : Int32)
  · rw [if_pos c22]
    simp only [l1, l2, l3, l4, x1, x2, x3, x4, bd1_s]
    unfold f_QuotaLawsLaw_law_1342
    obtain ⟨r, r', h1, h2, a1, a2, a3, a4⟩ := e22 (sc.2 (i + 1))
    refine ⟨h2, a4, ?_⟩
    simp only [hk, bd1_s, a1, bd2_s, a2, a3]
    rw [l5]
  rw [if_neg c22]
  by_cases c23 : oc = (23 : Int32)
  · rw [if_pos c23]
    simp only [l1, l2, l3, l4, x1, x2, x3, x4, bd1_s]
    unfold f_QuotaLawsLaw_law_1342
    obtain ⟨r, r', h1, h2, a1, a2, a3, a4⟩ := e23 (sc.2 (i + 1)) (sc.2 (i + 2))
    refine ⟨h2, a4, ?_⟩
    simp only [hk, bd1_s, a1, bd2_s, a2, a3]
    rw [l5]
  rw [if_neg c23]
  by_cases c24 : oc = (24 : Int32)
  · rw [if_pos c24]
    simp only [l1, l2, l3, l4, x1, x2, x3, x4, bd1_s]
    unfold f_QuotaLawsLaw_law_1342
    obtain ⟨r, r', h1, h2, a1, a2, a3, a4⟩ := e24 (sc.2 (i + 1))
    refine ⟨h2, a4, ?_⟩
    simp only [hk, bd1_s, a1, bd2_s, a2, a3]
    rw [l5]
  rw [if_neg c24]
  by_cases c25 : oc = (25 : Int32)
  · rw [if_pos c25]
    simp only [l1, l2, l3, l4, x1, x2, x3, x4, bd1_s]
    unfold f_QuotaLawsLaw_law_1342
    obtain ⟨r, r', h1, h2, a1, a2, a3, a4⟩ := e25 (sc.2 (i + 1)) (sc.2 (i + 2))
    refine ⟨h2, a4, ?_⟩
    simp only [hk, bd1_s, a1, bd2_s, a2, a3]
    rw [l5]
  rw [if_neg c25]
  by_cases c26 : oc = (26 : Int32)
  · rw [if_pos c26]
    simp only [l1, l2, l3, l4, x1, x2, x3, x4, bd1_s]
    unfold f_QuotaLawsLaw_law_1342
    obtain ⟨r, r', h1, h2, a1, a2, a3, a4⟩ := e26 (sc.2 (i + 1)) (sc.2 (i + 2)) (sc.2 (i + 3))
    refine ⟨h2, a4, ?_⟩
    simp only [hk, bd1_s, a1, bd2_s, a2, a3]
    rw [l5]
  rw [if_neg c26]
  by_cases c27 : oc = (27 : Int32)
  · rw [if_pos c27]
    simp only [l1, l2, l3, l4, x1, x2, x3, x4, bd1_s]
    unfold f_QuotaLawsLaw_law_1342
    obtain ⟨r, r', h1, h2, a1, a2, a3, a4⟩ := e27 (sc.2 (i + 1))
    refine ⟨h2, a4, ?_⟩
    simp only [hk, bd1_s, a1, bd2_s, a2, a3]
    rw [l5]
  rw [if_neg c27]
  by_cases c28 : oc = (28 : Int32)
  · rw [if_pos c28]
    skip
    unfold f_QuotaLawsLaw_law_1342
    obtain ⟨r, r', h1, h2, a1, a2, a3, a4⟩ := e28
    refine ⟨h2, a4, ?_⟩
    simp only [hk, bd1_s, a1, bd2_s, a2, a3]
    rw [l5]
  rw [if_neg c28]
  by_cases c29 : oc = (29 : Int32)
  · rw [if_pos c29]
    simp only [l1, l2, l3, l4, x1, x2, x3, x4, bd1_s]
    unfold f_QuotaLawsLaw_law_1342
    obtain ⟨r, r', h1, h2, a1, a2, a3, a4⟩ := e29 (sc.2 (i + 1)) (sc.2 (i + 2)) (sc.2 (i + 3))
    refine ⟨h2, a4, ?_⟩
    simp only [hk, bd1_s, a1, bd2_s, a2, a3]
    rw [l5]
  rw [if_neg c29]
  by_cases c30 : oc = (30 : Int32)
  · rw [if_pos c30]
    simp only [l1, l2, l3, l4, x1, x2, x3, x4, bd1_s]
    unfold f_QuotaLawsLaw_law_1342
    obtain ⟨r, r', h1, h2, a1, a2, a3, a4⟩ := e30 (sc.2 (i + 1)) (sc.2 (i + 2)) (sc.2 (i + 3))
    refine ⟨h2, a4, ?_⟩
    simp only [hk, bd1_s, a1, bd2_s, a2, a3]
    rw [l5]
  rw [if_neg c30]
  by_cases c31 : oc = (31 : Int32)
  · rw [if_pos c31]
    simp only [l1, l2, l3, l4, x1, x2, x3, x4, bd1_s]
    unfold f_QuotaLawsLaw_law_1342
    obtain ⟨r, r', h1, h2, a1, a2, a3, a4⟩ := e31 (sc.2 (i + 1))
    refine ⟨h2, a4, ?_⟩
    simp only [hk, bd1_s, a1, bd2_s, a2, a3]
    rw [l5]
  rw [if_neg c31]
  by_cases c32 : oc = (32 : Int32)
  · rw [if_pos c32]
    simp only [l1, l2, l3, l4, x1, x2, x3, x4, bd1_s]
    unfold f_QuotaLawsLaw_law_1342
    obtain ⟨r, r', h1, h2, a1, a2, a3, a4⟩ := e32 (sc.2 (i + 1))
    refine ⟨h2, a4, ?_⟩
    simp only [hk, bd1_s, a1, bd2_s, a2, a3]
    rw [l5]
  rw [if_neg c32]
  by_cases c33 : oc = (33 : Int32)
  · rw [if_pos c33]
    simp only [l1, l2, l3, l4, x1, x2, x3, x4, bd1_s]
    unfold f_QuotaLawsLaw_law_1342
    obtain ⟨r, r', h1, h2, a1, a2, a3, a4⟩ := e33 (sc.2 (i + 1)) (sc.2 (i + 2)) (sc.2 (i + 3))
    refine ⟨h2, a4, ?_⟩
    simp only [hk, bd1_s, a1, bd2_s, a2, a3]
    rw [l5]
  rw [if_neg c33]
  by_cases c34 : oc = (34 : Int32)
  · rw [if_pos c34]
    simp only [l1, l2, l3, l4, x1, x2, x3, x4, bd1_s]
    unfold f_QuotaLawsLaw_law_1342
    obtain ⟨r, r', h1, h2, a1, a2, a3, a4⟩ := e34 (sc.2 (i + 1)) (sc.2 (i + 2)) (sc.2 (i + 3))
    refine ⟨h2, a4, ?_⟩
    simp only [hk, bd1_s, a1, bd2_s, a2, a3]
    rw [l5]
  rw [if_neg c34]
  by_cases c35 : oc = (35 : Int32)
  · rw [if_pos c35]
    simp only [l1, l2, l3, l4, x1, x2, x3, x4, bd1_s]
    unfold f_QuotaLawsLaw_law_1342
    obtain ⟨r, r', h1, h2, a1, a2, a3, a4⟩ := e35 (sc.2 (i + 1)) (sc.2 (i + 2)) (sc.2 (i + 3)) (sc.2 (i + 4))
    refine ⟨h2, a4, ?_⟩
    simp only [hk, bd1_s, a1, bd2_s, a2, a3]
    rw [l5]
  rw [if_neg c35]
  by_cases c36 : oc = (36 : Int32)
  · rw [if_pos c36]
    skip
    unfold f_QuotaLawsLaw_law_1342
    obtain ⟨r, r', h1, h2, a1, a2, a3, a4⟩ := e36
    refine ⟨h2, a4, ?_⟩
    simp only [hk, bd1_s, a1, bd2_s, a2, a3]
    rw [l5]
  rw [if_neg c36]
  by_cases c37 : oc = (37 : Int32)
  · rw [if_pos c37]
    simp only [l1, l2, l3, l4, x1, x2, x3, x4, bd1_s]
    unfold f_QuotaLawsLaw_law_1342
    obtain ⟨r, h1, h2, a1, a2, a3, a4⟩ := e37 (sc.2 (i + 1))
    refine ⟨h2, a4, ?_⟩
    simp only [hk, bd1_s, a1, bd2_s, a2, a3]
    rw [if_pos trivial, l5]
  rw [if_neg c37]
  unfold f_QuotaLawsLaw_law_1342
  exact ⟨h, h0, by rw [l5]⟩
end
/-! 97.loop -/
section
/-! the law's loop: printed by wip/gen/gen_loop.py -/
theorem Fi_torn {S : Sg} {v : Nat → Nat → Int32} {w : Nat → Nat → Int64} (hs : SOK S) (hc : CI S v) (hm : MI S v) : FiT S v w (f_Q_torn 0) (f_M_torn 100) := by
  refine FiT.q (r := zI (S.2.2 7 0)) (r' := zI (S.2.2 8 0)) (v1 := v) (v2 := v) (w1 := w) (w2 := w) hs hc hm ?_ (fun _ _ => rfl) ?_ (fun _ _ => rfl)
  · simp only [f_Q_torn, f_Q_torn_0, hQ v w, bd1_s]
    rw [hc.2.2.2.2.2.2.1]
  · simp only [f_M_torn, f_M_torn_0, hM v w, bd1_s]
    rw [hm.2.2.2.2.2.2]
def KK (h : mH) : Prop := ∃ (S : Sg) (v : Nat → Nat → Int32) (w : Nat → Nat → Int64), h = bh v w ∧ SOK S ∧ CI S v ∧ MI S v
theorem EqT.st {α : Type} {S : Sg} {v : Nat → Nat → Int32} {w : Nat → Nat → Int64} {fq fm : mH → Option (α × mH)} (e : EqT S v w fq fm) : St (bh v w) KK fq fm := by
  obtain ⟨r, v1, w1, v2, w2, S', e1, e2, e3, e4, e5⟩ := e
  exact ⟨r, bh v1 w1, bh v2 w2, e1, rfl, e2, S', v2, w2, rfl, e3, e4, e5⟩
theorem FiT.sf {α : Type} {S : Sg} {v : Nat → Nat → Int32} {w : Nat → Nat → Int64} {fq fm : mH → Option (α × mH)} (e : FiT S v w fq fm) : Sf (bh v w) KK fq fm := by
  obtain ⟨r, r', v1, w1, v2, w2, S', e1, e2, e3, e4, e5⟩ := e
  exact ⟨r, r', bh v1 w1, bh v2 w2, e1, rfl, e2, S', v2, w2, rfl, e3, e4, e5⟩
theorem turn {sc : Nat × (Nat → Int32)} {i : Nat} (hi : i + 5 ≤ sc.1) (hN : sc.1 ≤ 320) (rec : Nat → Nat → Int32 → mH → Option (Int32 × mH)) {h : mH} (hK : KK h) : ∃ h2, KK h2 ∧ f_QuotaLawsLaw_law_18b sc rec 0 100 (nI i) h = rec 0 100 (nI (i + 5)) h2 := by
  obtain ⟨S, v, w, rfl, hs, hc, hm⟩ := hK
  refine step hi hN rec rfl ⟨S, v, w, rfl, hs, hc, hm⟩ ?_ ?_ ?_ ?_ ?_ ?_ ?_ ?_ ?_ ?_ ?_ ?_ ?_ ?_ ?_ ?_ ?_ ?_ ?_ ?_ ?_ ?_ ?_ ?_ ?_ ?_ ?_ ?_ ?_ ?_ ?_ ?_ ?_ ?_ ?_ ?_ ?_ ?_
  · exact fun x => St.f (EqT.st (Eqv.T (E_feed x hs hc hm)))
  · exact fun x => St.f (EqT.st (Eqv.T (E_end x hs hc hm)))
  · exact St.f (EqT.st (Eqv.T (E_text hs hc hm)))
  · exact St.f (EqT.st (Eqv.T (E_fault hs hc hm)))
  · exact fun x => St.f (EqT.st (Eqv.T (E_rule x hs hc hm)))
  · exact fun x y => St.f (EqT.st (Eqv.T (E_law x y hs hc hm)))
  · exact fun x y => St.f (EqT.st (Eqv.T (E_one x y hs hc hm)))
  · exact fun x y => St.f (EqT.st (Eqv.T (E_broken x y hs hc hm)))
  · exact fun x y => St.f (EqT.st (Eqv.T (E_quota x y hs hc hm)))
  · exact fun x y => St.f (EqT.st (Eqv.T (E_carry x y hs hc hm)))
  · exact fun x y => St.f (EqT.st (Eqv.T (E_watch x y hs hc hm)))
  · exact fun x y => St.f (EqT.st (Eqv.T (E_time x y hs hc hm)))
  · exact fun x y z => St.f (EqT.st (Eqv.T (E_refuse x y z hs hc hm)))
  · exact fun x y z => St.f (EqT.st (Eqv.T (E_want x y z hs hc hm)))
  · exact fun x y => St.f (EqT.st (Eqv.T (E_fund x y hs hc hm)))
  · exact fun x => St.f (EqT.st (Eqv.T (E_revive x hs hc hm)))
  · exact fun x y => St.f (EqT.st (Eqv.T (E_breaks x y hs hc hm)))
  · exact St.f (EqT.st (Eqv.T (E_year hs hc hm)))
  · exact St.f (EqT.st (Eqv.T (E_falls hs hc hm)))
  · exact fun x => St.f (EqT.st (Eqv.T (E_most x hs hc hm)))
  · exact fun x => St.f (EqT.st (E_rota x hs hc hm))
  · exact fun x => FiT.sf (Fi_more x hs hc hm)
  · exact fun x => FiT.sf (Fi_together x hs hc hm)
  · exact fun x y => St.f (EqT.st (Eqv.T (E_kill x y hs hc hm)))
  · exact fun x => St.f (EqT.st (Eqv.T (E_selfish x hs hc hm)))
  · exact fun x y => St.f (EqT.st (E_luck x y hs hc hm))
  · exact fun x y z => St.f (EqT.st (Eqv.T (E_see x y z hs hc hm)))
  · exact fun x => St.f (EqT.st (Eqv.T (E_forget x hs hc hm)))
  · exact FiT.sf (Fi_books hs hc hm)
  · exact fun x y z => FiT.sf (Fi_entry x y z hs hc hm)
  · exact fun x y z => St.f (EqT.st (Eqv.T (E_wild x y z hs hc hm)))
  · exact fun x => St.f (EqT.st (Eqv.T (E_keep x hs hc hm)))
  · exact fun x => St.f (EqT.st (Eqv.T (E_back x hs hc hm)))
  · exact fun x y z => St.f (EqT.st (Eqv.T (E_sheet x y z hs hc hm)))
  · exact fun x y z => St.f (EqT.st (Eqv.T (E_lay x y z hs hc hm)))
  · exact fun x y z t => St.f (EqT.st (Eqv.T (E_read x y z t hs hc hm)))
  · exact FiT.sf (Fi_torn hs hc hm)
  · exact fun x => EqT.st (Eqv.T (E_count x hs hc hm))
theorem fun_claim : FunClaim := by
  intro sc hsc
  have hN : sc.1 ≤ 320 := hsc
  obtain ⟨h, v, w, -, eb, hl, hc, hm⟩ := first
  rw [hl sc]
  have fin : ∀ {i : Nat} (n : Nat) (h2 : mH), i ≤ 320 → sc.1 < i + 5 → KK h2 → ∃ h', f_QuotaLawsLaw_law_18 sc (n + 1) 0 100 (nI i) h2 = some (1, h') ∧ h'.1 ≤ 600000 ∧ h'.2.1 ≤ 7302250 := by
    intro i n h2 hi hlt hK
    obtain ⟨S, v, w, rfl, -⟩ := hK
    refine ⟨bh v w, ?_, show 126 ≤ 600000 by decide, show 27134 ≤ 7302250 by decide⟩
    show f_QuotaLawsLaw_law_18b sc (f_QuotaLawsLaw_law_18 sc n) 0 100 (nI i) (bh v w) = _
    unfold f_QuotaLawsLaw_law_18b
    rw [if_pos ((law_cond hN hi).mpr hlt)]
  have key : ∀ (k fuel i : Nat) (h : mH), k < fuel → i ≤ 320 → sc.1 < i + 5 * k + 5 → KK h → ∃ h', f_QuotaLawsLaw_law_18 sc fuel 0 100 (nI i) h = some (1, h') ∧ h'.1 ≤ 600000 ∧ h'.2.1 ≤ 7302250 := by
    intro k
    induction k with
    | zero =>
      intro fuel i h hf hi hlt hK
      obtain ⟨n, rfl⟩ : ∃ n, fuel = n + 1 := ⟨fuel - 1, by omega⟩
      exact fin n h hi (by omega) hK
    | succ k ih =>
      intro fuel i h hf hi hlt hK
      obtain ⟨n, rfl⟩ : ∃ n, fuel = n + 1 := ⟨fuel - 1, by omega⟩
      by_cases c : i + 5 ≤ sc.1
      · obtain ⟨h2, k2, e2⟩ := turn c hN (f_QuotaLawsLaw_law_18 sc n) hK
        show ∃ h', f_QuotaLawsLaw_law_18b sc (f_QuotaLawsLaw_law_18 sc n) 0 100 (nI i) h = some (1, h') ∧ _
        rw [e2]
        exact ih n (i + 5) h2 (by omega) (by omega) (by omega) k2
      · exact fin n h hi (by omega) hK
  rw [show (0 : Int32) = nI 0 from rfl]
  exact key 64 FU 0 h (by decide) (by decide) (by omega) ⟨S0, v, w, eb, SOK0, hc, hm⟩
end
