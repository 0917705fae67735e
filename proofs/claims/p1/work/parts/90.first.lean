/-! the first heap: what the constructors leave -/
def TL (h : mH) : Prop := ∀ k, 126 ≤ k → h.2.2 k = dead
def okc : mCell → Prop
  | .inl (_, n, .inr (.inr (.inr (.inr f)))) => ∀ j, n ≤ j → f j = none
  | _ => True
def RA (h : mH) : Prop := ∀ k, okc (h.2.2 k)
def TB (h h' : mH) : Prop := h.1 ≤ h'.1 ∧ (h'.1 ≤ 126 → TL h → TL h') ∧ (RA h → RA h')
theorem TB.rf (h : mH) : TB h h := ⟨Nat.le_refl _, fun _ t => t, fun r => r⟩
theorem TB.tr {a b c : mH} (x : TB a b) (y : TB b c) : TB a c := ⟨Nat.le_trans x.1 y.1, fun n t => y.2.1 n (x.2.1 (Nat.le_trans y.1 n) t), fun r => y.2.2 (x.2.2 r)⟩
theorem TB.set {h : mH} {o : Nat} {c : mCell} (ho : h.2.2 o ≠ dead) (hc : RA h → okc c) : TB h (mset h o c) := by
  refine ⟨Nat.le_refl _, fun _ t k hk => ?_, fun r k => ?_⟩
  · show va_up h.2.2 o c k = dead
    unfold va_up
    split
    · next e => subst e; exact absurd (t k hk) ho
    · exact t k hk
  · show okc (va_up h.2.2 o c k)
    unfold va_up
    split
    · exact hc r
    · exact r k
theorem mkn_tb {h h' : mH} {s : Nat} {c : mCell} (hc : okc c) (e : mkn h s c = some h') : TB h h' := by
  obtain ⟨-, rfl⟩ := mkn_e e
  refine ⟨Nat.le_succ _, fun n t k hk => ?_, fun r k => ?_⟩
  · have n : h.1 + 1 ≤ 126 := n
    show va_up h.2.2 h.1 c k = dead
    unfold va_up
    rw [if_neg (by omega)]
    exact t k hk
  · show okc (va_up h.2.2 h.1 c k)
    unfold va_up
    split
    · exact hc
    · exact r k
theorem pV_tb {h h' : mH} {o ci k : Nat} {v : Value} (e : pV h o ci k v = some h') : TB h h' := by
  obtain ⟨fs, e1, e2, rfl⟩ := pV_spec e
  refine TB.set ?_ (fun _ => trivial)
  rw [e1]
  intro z
  have : fs = [] := congrArg Prod.snd (Sum.inr.inj z)
  rw [this] at e2
  exact absurd e2 (by simp)
theorem sI_tb {h h' : mH} {t o : Nat} {i x : Int32} (e : sI h t o i x = some h') : TB h h' := by
  obtain ⟨n, f, e1, -, rfl⟩ := sI_spec e
  refine TB.set ?_ (fun _ => trivial)
  rw [e1]
  intro z; cases z
theorem sR_tb {h h' : mH} {t o ci : Nat} {i : Int32} {v : Nat} (e : sR h t o ci i v = some h') : TB h h' := by
  obtain ⟨n, f, fs, e1, -, -, hi, rfl⟩ := sR_spec e
  refine TB.set ?_ (fun r => ?_)
  · rw [e1]
    intro z; cases z
  · have := r o
    rw [e1] at this
    have h0 : ∀ j, n ≤ j → f j = none := this
    show ∀ j, n ≤ j → va_up f i.toNatClampNeg (some v) j = none
    intro j hj
    unfold va_up
    have h3 : ¬ n ≤ i.toNatClampNeg := fun q => hi (Or.inr q)
    rw [if_neg (by omega)]
    exact h0 j hj
def PT (h : mH) (x : Option mH) : Prop := ∀ h', x = some h' → TB h h'
theorem PT.ret {h h2 : mH} (t : TB h h2) : PT h (some h2) := fun h' e => by obtain rfl := ret1 e; exact t
theorem PT.no {h : mH} : PT h none := fun _ e => by cases e
theorem PT.bdp {α : Type} {h : mH} {x : Option α} {f : α → Option mH} (k : ∀ a, PT h (f a)) : PT h (bd1 x f) := fun h' e => by
  obtain ⟨a, -, e2⟩ := bd1_e e
  exact k a h' e2
theorem PT.grd {h : mH} {p : Prop} [Decidable p] {x : Option mH} (k : PT h x) : PT h (grd p x) := fun h' e => k h' (grd_e e).2
theorem PT.op {h h1 : mH} {x : Option mH} {f : mH → Option mH} (t : TB h h1) (s : ∀ h2, x = some h2 → TB h1 h2) (k : ∀ h2, TB h h2 → PT h (f h2)) : PT h (bd1 x f) := fun h' e => by
  obtain ⟨a, e1, e2⟩ := bd1_e e
  exact k a (t.tr (s a e1)) h' e2
theorem PT.tail {h h1 : mH} {x : Option mH} (t : TB h h1) (k : PT h1 x) : PT h x := fun h' e => t.tr (k h' e)
theorem tb_Reader_new {a : Nat} {h h' : mH} (e : f_Reader_new a h = some h') : TB h h' := by
  have t0 := TB.rf h
  refine (?_ : PT h (f_Reader_new a h)) h' e
  unfold f_Reader_new f_Reader_new_0
  repeat' (first
    | exact PT.ret (by assumption)
    | refine PT.grd ?_
    | (refine PT.op (by assumption) (fun _ e => mkn_tb (by first | exact trivial | exact fun _ _ => rfl) e) ?_; intro _ _)
    | (refine PT.op (by assumption) (fun _ e => pV_tb e) ?_; intro _ _)
    | (refine PT.op (by assumption) (fun _ e => sI_tb e) ?_; intro _ _)
    | (refine PT.op (by assumption) (fun _ e => sR_tb e) ?_; intro _ _)
    | (refine PT.bdp ?_; intro _)
    | split)
theorem tb_Sightings_new {a : Nat} {h h' : mH} (e : f_Sightings_new a h = some h') : TB h h' := by
  have t0 := TB.rf h
  refine (?_ : PT h (f_Sightings_new a h)) h' e
  unfold f_Sightings_new f_Sightings_new_0
  repeat' (first
    | exact PT.ret (by assumption)
    | refine PT.grd ?_
    | (refine PT.op (by assumption) (fun _ e => mkn_tb (by first | exact trivial | exact fun _ _ => rfl) e) ?_; intro _ _)
    | (refine PT.op (by assumption) (fun _ e => pV_tb e) ?_; intro _ _)
    | (refine PT.op (by assumption) (fun _ e => sI_tb e) ?_; intro _ _)
    | (refine PT.op (by assumption) (fun _ e => sR_tb e) ?_; intro _ _)
    | (refine PT.op (by assumption) (fun _ e => tb_Reader_new e) ?_; intro _ _)
    | (refine PT.bdp ?_; intro _)
    | split)
theorem tb_Realm_new {a : Nat} {h h' : mH} (e : f_Realm_new a h = some h') : TB h h' := by
  have t0 := TB.rf h
  refine (?_ : PT h (f_Realm_new a h)) h' e
  unfold f_Realm_new f_Realm_new_0
  repeat' (first
    | exact PT.ret (by assumption)
    | refine PT.grd ?_
    | (refine PT.op (by assumption) (fun _ e => mkn_tb (by first | exact trivial | exact fun _ _ => rfl) e) ?_; intro _ _)
    | (refine PT.op (by assumption) (fun _ e => pV_tb e) ?_; intro _ _)
    | (refine PT.op (by assumption) (fun _ e => sI_tb e) ?_; intro _ _)
    | (refine PT.op (by assumption) (fun _ e => sR_tb e) ?_; intro _ _)
    | (refine PT.op (by assumption) (fun _ e => tb_Reader_new e) ?_; intro _ _)
    | (refine PT.op (by assumption) (fun _ e => tb_Sightings_new e) ?_; intro _ _)
    | (refine PT.bdp ?_; intro _)
    | split)
theorem tb_Planner_new {a : Nat} {h h' : mH} (e : f_Planner_new a h = some h') : TB h h' := by
  have t0 := TB.rf h
  refine (?_ : PT h (f_Planner_new a h)) h' e
  unfold f_Planner_new f_Planner_new_0
  repeat' (first
    | exact PT.ret (by assumption)
    | refine PT.grd ?_
    | (refine PT.op (by assumption) (fun _ e => mkn_tb (by first | exact trivial | exact fun _ _ => rfl) e) ?_; intro _ _)
    | (refine PT.op (by assumption) (fun _ e => pV_tb e) ?_; intro _ _)
    | (refine PT.op (by assumption) (fun _ e => sI_tb e) ?_; intro _ _)
    | (refine PT.op (by assumption) (fun _ e => sR_tb e) ?_; intro _ _)
    | (refine PT.op (by assumption) (fun _ e => tb_Reader_new e) ?_; intro _ _)
    | (refine PT.op (by assumption) (fun _ e => tb_Sightings_new e) ?_; intro _ _)
    | (refine PT.op (by assumption) (fun _ e => tb_Realm_new e) ?_; intro _ _)
    | (refine PT.bdp ?_; intro _)
    | split)
theorem tb_Tables_new {a : Nat} {h h' : mH} (e : f_Tables_new a h = some h') : TB h h' := by
  have t0 := TB.rf h
  refine (?_ : PT h (f_Tables_new a h)) h' e
  unfold f_Tables_new f_Tables_new_0
  repeat' (first
    | exact PT.ret (by assumption)
    | refine PT.grd ?_
    | (refine PT.op (by assumption) (fun _ e => mkn_tb (by first | exact trivial | exact fun _ _ => rfl) e) ?_; intro _ _)
    | (refine PT.op (by assumption) (fun _ e => pV_tb e) ?_; intro _ _)
    | (refine PT.op (by assumption) (fun _ e => sI_tb e) ?_; intro _ _)
    | (refine PT.op (by assumption) (fun _ e => sR_tb e) ?_; intro _ _)
    | (refine PT.op (by assumption) (fun _ e => tb_Reader_new e) ?_; intro _ _)
    | (refine PT.op (by assumption) (fun _ e => tb_Sightings_new e) ?_; intro _ _)
    | (refine PT.op (by assumption) (fun _ e => tb_Realm_new e) ?_; intro _ _)
    | (refine PT.op (by assumption) (fun _ e => tb_Planner_new e) ?_; intro _ _)
    | (refine PT.bdp ?_; intro _)
    | split)
theorem tb_Odds_new {a : Nat} {h h' : mH} (e : f_Odds_new a h = some h') : TB h h' := by
  have t0 := TB.rf h
  refine (?_ : PT h (f_Odds_new a h)) h' e
  unfold f_Odds_new f_Odds_new_0
  repeat' (first
    | exact PT.ret (by assumption)
    | refine PT.grd ?_
    | (refine PT.op (by assumption) (fun _ e => mkn_tb (by first | exact trivial | exact fun _ _ => rfl) e) ?_; intro _ _)
    | (refine PT.op (by assumption) (fun _ e => pV_tb e) ?_; intro _ _)
    | (refine PT.op (by assumption) (fun _ e => sI_tb e) ?_; intro _ _)
    | (refine PT.op (by assumption) (fun _ e => sR_tb e) ?_; intro _ _)
    | (refine PT.op (by assumption) (fun _ e => tb_Reader_new e) ?_; intro _ _)
    | (refine PT.op (by assumption) (fun _ e => tb_Sightings_new e) ?_; intro _ _)
    | (refine PT.op (by assumption) (fun _ e => tb_Realm_new e) ?_; intro _ _)
    | (refine PT.op (by assumption) (fun _ e => tb_Planner_new e) ?_; intro _ _)
    | (refine PT.op (by assumption) (fun _ e => tb_Tables_new e) ?_; intro _ _)
    | (refine PT.bdp ?_; intro _)
    | split)
theorem tb_Sheet_new {a : Nat} {h h' : mH} (e : f_Sheet_new a h = some h') : TB h h' := by
  have t0 := TB.rf h
  refine (?_ : PT h (f_Sheet_new a h)) h' e
  unfold f_Sheet_new f_Sheet_new_0
  repeat' (first
    | exact PT.ret (by assumption)
    | refine PT.grd ?_
    | (refine PT.op (by assumption) (fun _ e => mkn_tb (by first | exact trivial | exact fun _ _ => rfl) e) ?_; intro _ _)
    | (refine PT.op (by assumption) (fun _ e => pV_tb e) ?_; intro _ _)
    | (refine PT.op (by assumption) (fun _ e => sI_tb e) ?_; intro _ _)
    | (refine PT.op (by assumption) (fun _ e => sR_tb e) ?_; intro _ _)
    | (refine PT.op (by assumption) (fun _ e => tb_Reader_new e) ?_; intro _ _)
    | (refine PT.op (by assumption) (fun _ e => tb_Sightings_new e) ?_; intro _ _)
    | (refine PT.op (by assumption) (fun _ e => tb_Realm_new e) ?_; intro _ _)
    | (refine PT.op (by assumption) (fun _ e => tb_Planner_new e) ?_; intro _ _)
    | (refine PT.op (by assumption) (fun _ e => tb_Tables_new e) ?_; intro _ _)
    | (refine PT.op (by assumption) (fun _ e => tb_Odds_new e) ?_; intro _ _)
    | (refine PT.bdp ?_; intro _)
    | split)
theorem tb_Q_new_121 : ∀ (n : Nat) (a0 : Nat) (a1 : Int32) (h : mH), PT h (f_Q_new_121 n a0 a1 h)
  | 0, _, _, _ => PT.no
  | n + 1, a0, a1, h => by
    have t0 := TB.rf h
    have ih := tb_Q_new_121 n
    show PT h (f_Q_new_121b (f_Q_new_121 n) a0 a1 h)
    unfold f_Q_new_121b
    repeat' (first
      | exact PT.ret (by assumption)
      | exact PT.tail (by assumption) (ih _ _ _)
      | refine PT.grd ?_
      | (refine PT.op (by assumption) (fun _ e => mkn_tb (by first | exact trivial | exact fun _ _ => rfl) e) ?_; intro _ _)
      | (refine PT.op (by assumption) (fun _ e => pV_tb e) ?_; intro _ _)
      | (refine PT.op (by assumption) (fun _ e => sI_tb e) ?_; intro _ _)
      | (refine PT.op (by assumption) (fun _ e => sR_tb e) ?_; intro _ _)
      | (refine PT.op (by assumption) (fun _ e => tb_Reader_new e) ?_; intro _ _)
      | (refine PT.op (by assumption) (fun _ e => tb_Sightings_new e) ?_; intro _ _)
      | (refine PT.op (by assumption) (fun _ e => tb_Realm_new e) ?_; intro _ _)
      | (refine PT.op (by assumption) (fun _ e => tb_Planner_new e) ?_; intro _ _)
      | (refine PT.op (by assumption) (fun _ e => tb_Tables_new e) ?_; intro _ _)
      | (refine PT.op (by assumption) (fun _ e => tb_Odds_new e) ?_; intro _ _)
      | (refine PT.op (by assumption) (fun _ e => tb_Sheet_new e) ?_; intro _ _)
      | (refine PT.bdp ?_; intro _)
      | split)
theorem tb_Q_new_95 : ∀ (n : Nat) (a0 : Nat) (a1 : Int32) (h : mH), PT h (f_Q_new_95 n a0 a1 h)
  | 0, _, _, _ => PT.no
  | n + 1, a0, a1, h => by
    have t0 := TB.rf h
    have ih := tb_Q_new_95 n
    show PT h (f_Q_new_95b (f_Q_new_95 n) a0 a1 h)
    unfold f_Q_new_95b
    repeat' (first
      | exact PT.ret (by assumption)
      | exact PT.tail (by assumption) (ih _ _ _)
      | exact PT.tail (by assumption) (tb_Q_new_121 _ _ _ _)
      | refine PT.grd ?_
      | (refine PT.op (by assumption) (fun _ e => mkn_tb (by first | exact trivial | exact fun _ _ => rfl) e) ?_; intro _ _)
      | (refine PT.op (by assumption) (fun _ e => pV_tb e) ?_; intro _ _)
      | (refine PT.op (by assumption) (fun _ e => sI_tb e) ?_; intro _ _)
      | (refine PT.op (by assumption) (fun _ e => sR_tb e) ?_; intro _ _)
      | (refine PT.op (by assumption) (fun _ e => tb_Reader_new e) ?_; intro _ _)
      | (refine PT.op (by assumption) (fun _ e => tb_Sightings_new e) ?_; intro _ _)
      | (refine PT.op (by assumption) (fun _ e => tb_Realm_new e) ?_; intro _ _)
      | (refine PT.op (by assumption) (fun _ e => tb_Planner_new e) ?_; intro _ _)
      | (refine PT.op (by assumption) (fun _ e => tb_Tables_new e) ?_; intro _ _)
      | (refine PT.op (by assumption) (fun _ e => tb_Odds_new e) ?_; intro _ _)
      | (refine PT.op (by assumption) (fun _ e => tb_Sheet_new e) ?_; intro _ _)
      | (refine PT.bdp ?_; intro _)
      | split)
theorem tb_Q_new {a : Nat} {h h' : mH} (e : f_Q_new a h = some h') : TB h h' := by
  have t0 := TB.rf h
  refine (?_ : PT h (f_Q_new a h)) h' e
  unfold f_Q_new f_Q_new_0
  repeat' (first
    | exact PT.ret (by assumption)
    | exact PT.tail (by assumption) (tb_Q_new_95 _ _ _ _)
    | refine PT.grd ?_
    | (refine PT.op (by assumption) (fun _ e => mkn_tb (by first | exact trivial | exact fun _ _ => rfl) e) ?_; intro _ _)
    | (refine PT.op (by assumption) (fun _ e => pV_tb e) ?_; intro _ _)
    | (refine PT.op (by assumption) (fun _ e => sI_tb e) ?_; intro _ _)
    | (refine PT.op (by assumption) (fun _ e => sR_tb e) ?_; intro _ _)
    | (refine PT.op (by assumption) (fun _ e => tb_Reader_new e) ?_; intro _ _)
    | (refine PT.op (by assumption) (fun _ e => tb_Sightings_new e) ?_; intro _ _)
    | (refine PT.op (by assumption) (fun _ e => tb_Realm_new e) ?_; intro _ _)
    | (refine PT.op (by assumption) (fun _ e => tb_Planner_new e) ?_; intro _ _)
    | (refine PT.op (by assumption) (fun _ e => tb_Tables_new e) ?_; intro _ _)
    | (refine PT.op (by assumption) (fun _ e => tb_Odds_new e) ?_; intro _ _)
    | (refine PT.op (by assumption) (fun _ e => tb_Sheet_new e) ?_; intro _ _)
    | (refine PT.bdp ?_; intro _)
    | split)
theorem tb_M_firstDraft_23 : ∀ (n : Nat) (a0 : Nat) (a1 : Int32) (h : mH), PT h (f_M_firstDraft_23 n a0 a1 h)
  | 0, _, _, _ => PT.no
  | n + 1, a0, a1, h => by
    have t0 := TB.rf h
    have ih := tb_M_firstDraft_23 n
    show PT h (f_M_firstDraft_23b (f_M_firstDraft_23 n) a0 a1 h)
    unfold f_M_firstDraft_23b
    repeat' (first
      | exact PT.ret (by assumption)
      | exact PT.tail (by assumption) (ih _ _ _)
      | refine PT.grd ?_
      | (refine PT.op (by assumption) (fun _ e => mkn_tb (by first | exact trivial | exact fun _ _ => rfl) e) ?_; intro _ _)
      | (refine PT.op (by assumption) (fun _ e => pV_tb e) ?_; intro _ _)
      | (refine PT.op (by assumption) (fun _ e => sI_tb e) ?_; intro _ _)
      | (refine PT.op (by assumption) (fun _ e => sR_tb e) ?_; intro _ _)
      | (refine PT.op (by assumption) (fun _ e => tb_Reader_new e) ?_; intro _ _)
      | (refine PT.op (by assumption) (fun _ e => tb_Sightings_new e) ?_; intro _ _)
      | (refine PT.op (by assumption) (fun _ e => tb_Realm_new e) ?_; intro _ _)
      | (refine PT.op (by assumption) (fun _ e => tb_Planner_new e) ?_; intro _ _)
      | (refine PT.op (by assumption) (fun _ e => tb_Tables_new e) ?_; intro _ _)
      | (refine PT.op (by assumption) (fun _ e => tb_Odds_new e) ?_; intro _ _)
      | (refine PT.op (by assumption) (fun _ e => tb_Sheet_new e) ?_; intro _ _)
      | (refine PT.op (by assumption) (fun _ e => tb_Q_new e) ?_; intro _ _)
      | (refine PT.bdp ?_; intro _)
      | split)
theorem tb_M_firstDraft_2 : ∀ (n : Nat) (a0 : Nat) (a1 : Int32) (h : mH), PT h (f_M_firstDraft_2 n a0 a1 h)
  | 0, _, _, _ => PT.no
  | n + 1, a0, a1, h => by
    have t0 := TB.rf h
    have ih := tb_M_firstDraft_2 n
    show PT h (f_M_firstDraft_2b (f_M_firstDraft_2 n) a0 a1 h)
    unfold f_M_firstDraft_2b
    repeat' (first
      | exact PT.ret (by assumption)
      | exact PT.tail (by assumption) (ih _ _ _)
      | exact PT.tail (by assumption) (tb_M_firstDraft_23 _ _ _ _)
      | refine PT.grd ?_
      | (refine PT.op (by assumption) (fun _ e => mkn_tb (by first | exact trivial | exact fun _ _ => rfl) e) ?_; intro _ _)
      | (refine PT.op (by assumption) (fun _ e => pV_tb e) ?_; intro _ _)
      | (refine PT.op (by assumption) (fun _ e => sI_tb e) ?_; intro _ _)
      | (refine PT.op (by assumption) (fun _ e => sR_tb e) ?_; intro _ _)
      | (refine PT.op (by assumption) (fun _ e => tb_Reader_new e) ?_; intro _ _)
      | (refine PT.op (by assumption) (fun _ e => tb_Sightings_new e) ?_; intro _ _)
      | (refine PT.op (by assumption) (fun _ e => tb_Realm_new e) ?_; intro _ _)
      | (refine PT.op (by assumption) (fun _ e => tb_Planner_new e) ?_; intro _ _)
      | (refine PT.op (by assumption) (fun _ e => tb_Tables_new e) ?_; intro _ _)
      | (refine PT.op (by assumption) (fun _ e => tb_Odds_new e) ?_; intro _ _)
      | (refine PT.op (by assumption) (fun _ e => tb_Sheet_new e) ?_; intro _ _)
      | (refine PT.op (by assumption) (fun _ e => tb_Q_new e) ?_; intro _ _)
      | (refine PT.bdp ?_; intro _)
      | split)
theorem tb_M_firstDraft {a : Nat} {h h' : mH} (e : f_M_firstDraft a h = some h') : TB h h' := by
  have t0 := TB.rf h
  refine (?_ : PT h (f_M_firstDraft a h)) h' e
  unfold f_M_firstDraft f_M_firstDraft_0
  repeat' (first
    | exact PT.ret (by assumption)
    | exact PT.tail (by assumption) (tb_M_firstDraft_2 _ _ _ _)
    | refine PT.grd ?_
    | (refine PT.op (by assumption) (fun _ e => mkn_tb (by first | exact trivial | exact fun _ _ => rfl) e) ?_; intro _ _)
    | (refine PT.op (by assumption) (fun _ e => pV_tb e) ?_; intro _ _)
    | (refine PT.op (by assumption) (fun _ e => sI_tb e) ?_; intro _ _)
    | (refine PT.op (by assumption) (fun _ e => sR_tb e) ?_; intro _ _)
    | (refine PT.op (by assumption) (fun _ e => tb_Reader_new e) ?_; intro _ _)
    | (refine PT.op (by assumption) (fun _ e => tb_Sightings_new e) ?_; intro _ _)
    | (refine PT.op (by assumption) (fun _ e => tb_Realm_new e) ?_; intro _ _)
    | (refine PT.op (by assumption) (fun _ e => tb_Planner_new e) ?_; intro _ _)
    | (refine PT.op (by assumption) (fun _ e => tb_Tables_new e) ?_; intro _ _)
    | (refine PT.op (by assumption) (fun _ e => tb_Odds_new e) ?_; intro _ _)
    | (refine PT.op (by assumption) (fun _ e => tb_Sheet_new e) ?_; intro _ _)
    | (refine PT.op (by assumption) (fun _ e => tb_Q_new e) ?_; intro _ _)
    | (refine PT.bdp ?_; intro _)
    | split)
theorem tb_M_keepDraft_111 : ∀ (n : Nat) (a0 : Nat) (a1 : Int32) (h : mH), PT h (f_M_keepDraft_111 n a0 a1 h)
  | 0, _, _, _ => PT.no
  | n + 1, a0, a1, h => by
    have t0 := TB.rf h
    have ih := tb_M_keepDraft_111 n
    show PT h (f_M_keepDraft_111b (f_M_keepDraft_111 n) a0 a1 h)
    unfold f_M_keepDraft_111b
    repeat' (first
      | exact PT.ret (by assumption)
      | exact PT.tail (by assumption) (ih _ _ _)
      | refine PT.grd ?_
      | (refine PT.op (by assumption) (fun _ e => mkn_tb (by first | exact trivial | exact fun _ _ => rfl) e) ?_; intro _ _)
      | (refine PT.op (by assumption) (fun _ e => pV_tb e) ?_; intro _ _)
      | (refine PT.op (by assumption) (fun _ e => sI_tb e) ?_; intro _ _)
      | (refine PT.op (by assumption) (fun _ e => sR_tb e) ?_; intro _ _)
      | (refine PT.op (by assumption) (fun _ e => tb_Reader_new e) ?_; intro _ _)
      | (refine PT.op (by assumption) (fun _ e => tb_Sightings_new e) ?_; intro _ _)
      | (refine PT.op (by assumption) (fun _ e => tb_Realm_new e) ?_; intro _ _)
      | (refine PT.op (by assumption) (fun _ e => tb_Planner_new e) ?_; intro _ _)
      | (refine PT.op (by assumption) (fun _ e => tb_Tables_new e) ?_; intro _ _)
      | (refine PT.op (by assumption) (fun _ e => tb_Odds_new e) ?_; intro _ _)
      | (refine PT.op (by assumption) (fun _ e => tb_Sheet_new e) ?_; intro _ _)
      | (refine PT.op (by assumption) (fun _ e => tb_Q_new e) ?_; intro _ _)
      | (refine PT.op (by assumption) (fun _ e => tb_M_firstDraft e) ?_; intro _ _)
      | (refine PT.bdp ?_; intro _)
      | split)
theorem tb_M_keepDraft_59 : ∀ (n : Nat) (a0 : Nat) (a1 : Int32) (h : mH), PT h (f_M_keepDraft_59 n a0 a1 h)
  | 0, _, _, _ => PT.no
  | n + 1, a0, a1, h => by
    have t0 := TB.rf h
    have ih := tb_M_keepDraft_59 n
    show PT h (f_M_keepDraft_59b (f_M_keepDraft_59 n) a0 a1 h)
    unfold f_M_keepDraft_59b
    repeat' (first
      | exact PT.ret (by assumption)
      | exact PT.tail (by assumption) (ih _ _ _)
      | exact PT.tail (by assumption) (tb_M_keepDraft_111 _ _ _ _)
      | refine PT.grd ?_
      | (refine PT.op (by assumption) (fun _ e => mkn_tb (by first | exact trivial | exact fun _ _ => rfl) e) ?_; intro _ _)
      | (refine PT.op (by assumption) (fun _ e => pV_tb e) ?_; intro _ _)
      | (refine PT.op (by assumption) (fun _ e => sI_tb e) ?_; intro _ _)
      | (refine PT.op (by assumption) (fun _ e => sR_tb e) ?_; intro _ _)
      | (refine PT.op (by assumption) (fun _ e => tb_Reader_new e) ?_; intro _ _)
      | (refine PT.op (by assumption) (fun _ e => tb_Sightings_new e) ?_; intro _ _)
      | (refine PT.op (by assumption) (fun _ e => tb_Realm_new e) ?_; intro _ _)
      | (refine PT.op (by assumption) (fun _ e => tb_Planner_new e) ?_; intro _ _)
      | (refine PT.op (by assumption) (fun _ e => tb_Tables_new e) ?_; intro _ _)
      | (refine PT.op (by assumption) (fun _ e => tb_Odds_new e) ?_; intro _ _)
      | (refine PT.op (by assumption) (fun _ e => tb_Sheet_new e) ?_; intro _ _)
      | (refine PT.op (by assumption) (fun _ e => tb_Q_new e) ?_; intro _ _)
      | (refine PT.op (by assumption) (fun _ e => tb_M_firstDraft e) ?_; intro _ _)
      | (refine PT.bdp ?_; intro _)
      | split)
theorem tb_M_keepDraft_2 : ∀ (n : Nat) (a0 : Nat) (a1 : Int32) (h : mH), PT h (f_M_keepDraft_2 n a0 a1 h)
  | 0, _, _, _ => PT.no
  | n + 1, a0, a1, h => by
    have t0 := TB.rf h
    have ih := tb_M_keepDraft_2 n
    show PT h (f_M_keepDraft_2b (f_M_keepDraft_2 n) a0 a1 h)
    unfold f_M_keepDraft_2b
    repeat' (first
      | exact PT.ret (by assumption)
      | exact PT.tail (by assumption) (ih _ _ _)
      | exact PT.tail (by assumption) (tb_M_keepDraft_59 _ _ _ _)
      | refine PT.grd ?_
      | (refine PT.op (by assumption) (fun _ e => mkn_tb (by first | exact trivial | exact fun _ _ => rfl) e) ?_; intro _ _)
      | (refine PT.op (by assumption) (fun _ e => pV_tb e) ?_; intro _ _)
      | (refine PT.op (by assumption) (fun _ e => sI_tb e) ?_; intro _ _)
      | (refine PT.op (by assumption) (fun _ e => sR_tb e) ?_; intro _ _)
      | (refine PT.op (by assumption) (fun _ e => tb_Reader_new e) ?_; intro _ _)
      | (refine PT.op (by assumption) (fun _ e => tb_Sightings_new e) ?_; intro _ _)
      | (refine PT.op (by assumption) (fun _ e => tb_Realm_new e) ?_; intro _ _)
      | (refine PT.op (by assumption) (fun _ e => tb_Planner_new e) ?_; intro _ _)
      | (refine PT.op (by assumption) (fun _ e => tb_Tables_new e) ?_; intro _ _)
      | (refine PT.op (by assumption) (fun _ e => tb_Odds_new e) ?_; intro _ _)
      | (refine PT.op (by assumption) (fun _ e => tb_Sheet_new e) ?_; intro _ _)
      | (refine PT.op (by assumption) (fun _ e => tb_Q_new e) ?_; intro _ _)
      | (refine PT.op (by assumption) (fun _ e => tb_M_firstDraft e) ?_; intro _ _)
      | (refine PT.bdp ?_; intro _)
      | split)
theorem tb_M_keepDraft {a : Nat} {h h' : mH} (e : f_M_keepDraft a h = some h') : TB h h' := by
  have t0 := TB.rf h
  refine (?_ : PT h (f_M_keepDraft a h)) h' e
  unfold f_M_keepDraft f_M_keepDraft_0
  repeat' (first
    | exact PT.ret (by assumption)
    | exact PT.tail (by assumption) (tb_M_keepDraft_2 _ _ _ _)
    | refine PT.grd ?_
    | (refine PT.op (by assumption) (fun _ e => mkn_tb (by first | exact trivial | exact fun _ _ => rfl) e) ?_; intro _ _)
    | (refine PT.op (by assumption) (fun _ e => pV_tb e) ?_; intro _ _)
    | (refine PT.op (by assumption) (fun _ e => sI_tb e) ?_; intro _ _)
    | (refine PT.op (by assumption) (fun _ e => sR_tb e) ?_; intro _ _)
    | (refine PT.op (by assumption) (fun _ e => tb_Reader_new e) ?_; intro _ _)
    | (refine PT.op (by assumption) (fun _ e => tb_Sightings_new e) ?_; intro _ _)
    | (refine PT.op (by assumption) (fun _ e => tb_Realm_new e) ?_; intro _ _)
    | (refine PT.op (by assumption) (fun _ e => tb_Planner_new e) ?_; intro _ _)
    | (refine PT.op (by assumption) (fun _ e => tb_Tables_new e) ?_; intro _ _)
    | (refine PT.op (by assumption) (fun _ e => tb_Odds_new e) ?_; intro _ _)
    | (refine PT.op (by assumption) (fun _ e => tb_Sheet_new e) ?_; intro _ _)
    | (refine PT.op (by assumption) (fun _ e => tb_Q_new e) ?_; intro _ _)
    | (refine PT.op (by assumption) (fun _ e => tb_M_firstDraft e) ?_; intro _ _)
    | (refine PT.bdp ?_; intro _)
    | split)
theorem tb_M_new_196 : ∀ (n : Nat) (a0 : Nat) (a1 : Int32) (h : mH), PT h (f_M_new_196 n a0 a1 h)
  | 0, _, _, _ => PT.no
  | n + 1, a0, a1, h => by
    have t0 := TB.rf h
    have ih := tb_M_new_196 n
    show PT h (f_M_new_196b (f_M_new_196 n) a0 a1 h)
    unfold f_M_new_196b
    repeat' (first
      | exact PT.ret (by assumption)
      | exact PT.tail (by assumption) (ih _ _ _)
      | refine PT.grd ?_
      | (refine PT.op (by assumption) (fun _ e => mkn_tb (by first | exact trivial | exact fun _ _ => rfl) e) ?_; intro _ _)
      | (refine PT.op (by assumption) (fun _ e => pV_tb e) ?_; intro _ _)
      | (refine PT.op (by assumption) (fun _ e => sI_tb e) ?_; intro _ _)
      | (refine PT.op (by assumption) (fun _ e => sR_tb e) ?_; intro _ _)
      | (refine PT.op (by assumption) (fun _ e => tb_Reader_new e) ?_; intro _ _)
      | (refine PT.op (by assumption) (fun _ e => tb_Sightings_new e) ?_; intro _ _)
      | (refine PT.op (by assumption) (fun _ e => tb_Realm_new e) ?_; intro _ _)
      | (refine PT.op (by assumption) (fun _ e => tb_Planner_new e) ?_; intro _ _)
      | (refine PT.op (by assumption) (fun _ e => tb_Tables_new e) ?_; intro _ _)
      | (refine PT.op (by assumption) (fun _ e => tb_Odds_new e) ?_; intro _ _)
      | (refine PT.op (by assumption) (fun _ e => tb_Sheet_new e) ?_; intro _ _)
      | (refine PT.op (by assumption) (fun _ e => tb_Q_new e) ?_; intro _ _)
      | (refine PT.op (by assumption) (fun _ e => tb_M_firstDraft e) ?_; intro _ _)
      | (refine PT.op (by assumption) (fun _ e => tb_M_keepDraft e) ?_; intro _ _)
      | (refine PT.bdp ?_; intro _)
      | split)
theorem tb_M_new {a : Nat} {h h' : mH} (e : f_M_new a h = some h') : TB h h' := by
  have t0 := TB.rf h
  refine (?_ : PT h (f_M_new a h)) h' e
  unfold f_M_new f_M_new_0
  repeat' (first
    | exact PT.ret (by assumption)
    | exact PT.tail (by assumption) (tb_M_new_196 _ _ _ _)
    | refine PT.grd ?_
    | (refine PT.op (by assumption) (fun _ e => mkn_tb (by first | exact trivial | exact fun _ _ => rfl) e) ?_; intro _ _)
    | (refine PT.op (by assumption) (fun _ e => pV_tb e) ?_; intro _ _)
    | (refine PT.op (by assumption) (fun _ e => sI_tb e) ?_; intro _ _)
    | (refine PT.op (by assumption) (fun _ e => sR_tb e) ?_; intro _ _)
    | (refine PT.op (by assumption) (fun _ e => tb_Reader_new e) ?_; intro _ _)
    | (refine PT.op (by assumption) (fun _ e => tb_Sightings_new e) ?_; intro _ _)
    | (refine PT.op (by assumption) (fun _ e => tb_Realm_new e) ?_; intro _ _)
    | (refine PT.op (by assumption) (fun _ e => tb_Planner_new e) ?_; intro _ _)
    | (refine PT.op (by assumption) (fun _ e => tb_Tables_new e) ?_; intro _ _)
    | (refine PT.op (by assumption) (fun _ e => tb_Odds_new e) ?_; intro _ _)
    | (refine PT.op (by assumption) (fun _ e => tb_Sheet_new e) ?_; intro _ _)
    | (refine PT.op (by assumption) (fun _ e => tb_Q_new e) ?_; intro _ _)
    | (refine PT.op (by assumption) (fun _ e => tb_M_firstDraft e) ?_; intro _ _)
    | (refine PT.op (by assumption) (fun _ e => tb_M_keepDraft e) ?_; intro _ _)
    | (refine PT.bdp ?_; intro _)
    | split)
def hA : mH := mnew h00 10 (.inr (0, [.null, .null, .null, .null, .null, .null, .null, .null, .null, .int 0]))
def hB : mH := (f_Q_new 0 hA).getD h00
def hC : mH := mnew hB 39 (.inr (8, [.null, .null, .int 0, .int 0, .null, .null, .null, .null, .null, .null, .int 0, .int 0, .null, .null, .null, .null, .null, .int 0, .int 0, .null, .int 0, .int 0, .int 0, .int 0, .int 0, .int 0, .int 0, .null, .null, .null, .null, .null, .null, .null, .null, .null, .null, .null, .int 0]))
def hD : mH := (f_M_new 100 hC).getD h00
theorem get_of {x : Option mH} (h : x.isSome = true) : x = some (x.getD h00) := by
  cases x with
  | none => cases h
  | some a => rfl
theorem eB : f_Q_new 0 hA = some hB := get_of (by decide +kernel)
theorem nB : hB.1 = 100 := by decide +kernel
theorem eD : f_M_new 100 hC = some hD := get_of (by decide +kernel)
theorem nD : hD.1 = 126 ∧ hD.2.1 = 27134 := by decide +kernel
theorem hD_TB : TB h00 hD := by
  have t1 : TB h00 hA := mkn_tb (h := h00) (s := 10) trivial rfl
  have t2 := tb_Q_new eB
  have t3 : TB hB hC := mkn_tb (c := (.inr (8, [.null, .null, .int 0, .int 0, .null, .null, .null, .null, .null, .null, .int 0, .int 0, .null, .null, .null, .null, .null, .int 0, .int 0, .null, .int 0, .int 0, .int 0, .int 0, .int 0, .int 0, .int 0, .null, .null, .null, .null, .null, .null, .null, .null, .null, .null, .null, .int 0]))) (s := 39) trivial (by unfold mkn; rw [nB, if_pos (by decide)]; rfl)
  exact ((t1.tr t2).tr t3).tr (tb_M_new eD)
theorem hD_TL : TL hD := hD_TB.2.1 (by rw [nD.1]; decide) (fun _ _ => rfl)
theorem hD_RA : RA hD := hD_TB.2.2 (fun _ => trivial)
/-- shapes -/
def shv : Value → Value → Bool
  | .int _, .int _ => true
  | .long _, .long _ => true
  | .ref a, .ref b => a == b
  | _, _ => false
def shl : List Value → List Value → Bool
  | [], [] => true
  | a :: as, b :: bs => shv a b && shl as bs
  | _, _ => false
def shc : mCell → mCell → Bool
  | .inr (c, fs), .inr (d, gs) => c == d && shl fs gs
  | .inl (t, n, .inl _), .inl (t', n', .inl _) => t == t' && n == n'
  | .inl (t, n, .inr (.inl _)), .inl (t', n', .inr (.inl _)) => t == t' && n == n'
  | _, _ => false
def vOf : mCell → Nat → Int32
  | .inl (_, _, .inl f) => f
  | .inr (_, fs) => fun i => match fs[i]? with | some (.int x) => x | _ => 0
  | _ => fun _ => 0
def wOf : mCell → Nat → Int64
  | .inl (_, _, .inr (.inl f)) => f
  | .inr (_, fs) => fun i => match fs[i]? with | some (.long x) => x | _ => 0
  | _ => fun _ => 0
def rOf : mCell → Nat → Option Nat
  | .inl (_, _, .inr (.inr (.inr (.inr f)))) => f
  | _ => fun _ => none
def shr (t n : Nat) : mCell → Bool
  | .inl (t', n', .inr (.inr (.inr (.inr _)))) => t == t' && n == n'
  | _ => false
theorem fillv_sh {v : Nat → Int32} {w : Nat → Int64} : ∀ (fs gs : List Value) (i : Nat), shl fs gs = true → (∀ j x, gs[j]? = some (.int x) → v (i + j) = x) → (∀ j x, gs[j]? = some (.long x) → w (i + j) = x) → fillv v w i fs = gs := by
  intro fs
  induction fs with
  | nil => intro gs i h _ _; cases gs with
    | nil => rfl
    | cons _ _ => cases h
  | cons f fs ih =>
    intro gs i h hv hw
    cases gs with
    | nil => cases h
    | cons g gs =>
      have h2 : shv f g = true ∧ shl fs gs = true := by simpa [shl] using h
      have e := ih gs (i + 1) h2.2 (fun j x q => by have := hv (j + 1) x (by simpa using q); rwa [show i + 1 + j = i + (j + 1) by omega]) (fun j x q => by have := hw (j + 1) x (by simpa using q); rwa [show i + 1 + j = i + (j + 1) by omega])
      simp only [fillv]
      rw [e]
      congr 1
      have hv0 := hv 0
      have hw0 := hw 0
      have h3 := h2.1
      cases f <;> cases g <;> simp_all [shv]
theorem fill_sh {a b : mCell} (h : shc a b = true) : fillc (vOf b) (wOf b) a = b := by
  unfold shc at h
  split at h
  · next c fs d gs =>
    simp only [Bool.and_eq_true, beq_iff_eq] at h
    obtain ⟨rfl, h⟩ := h
    show Sum.inr (c, fillv _ _ 0 fs) = _
    rw [fillv_sh fs gs 0 h (fun j x q => by show (match gs[0 + j]? with | some (.int x) => x | _ => 0) = x; rw [Nat.zero_add, q]) (fun j x q => by show (match gs[0 + j]? with | some (.long x) => x | _ => 0) = x; rw [Nat.zero_add, q])]
  · simp only [Bool.and_eq_true, beq_iff_eq] at h
    obtain ⟨rfl, rfl⟩ := h
    rfl
  · simp only [Bool.and_eq_true, beq_iff_eq] at h
    obtain ⟨rfl, rfl⟩ := h
    rfl
  · cases h
theorem shr_of {t n : Nat} {c : mCell} (h : shr t n c = true) : c = .inl (t, n, .inr (.inr (.inr (.inr (rOf c))))) := by
  unfold shr at h
  split at h
  · simp only [Bool.and_eq_true, beq_iff_eq] at h
    obtain ⟨rfl, rfl⟩ := h
    rfl
  · cases h
theorem tm_dead {k : Nat} (h : 126 ≤ k) : tm k = dead := by
  unfold tm
  rw [List.getD_eq_getElem?_getD, List.getElem?_eq_none (show tl.length ≤ k from h)]
  rfl
theorem sh_hD : ∀ k, k < 126 → (k = 37 ∨ k = 39 ∨ shc (tm k) (hD.2.2 k) = true) := by decide +kernel
theorem sh_37 : shr 4 2 (hD.2.2 37) = true ∧ rOf (hD.2.2 37) 0 = some 58 ∧ rOf (hD.2.2 37) 1 = some 75 := by decide +kernel
theorem sh_39 : shr 5 4 (hD.2.2 39) = true ∧ rOf (hD.2.2 39) 0 = some 92 ∧ rOf (hD.2.2 39) 1 = some 94 ∧ rOf (hD.2.2 39) 2 = some 96 ∧ rOf (hD.2.2 39) 3 = some 98 := by decide +kernel
def v0 (k : Nat) : Nat → Int32 := vOf (hD.2.2 k)
def w0 (k : Nat) : Nat → Int64 := wOf (hD.2.2 k)
theorem hD_bh : hD = bh v0 w0 := by
  have e : hD.2.2 = (bh v0 w0).2.2 := by
    funext k
    show hD.2.2 k = fillc (v0 k) (w0 k) (tm k)
    by_cases hk : k < 126
    · rcases sh_hD k hk with rfl | rfl | h
      · have e1 := shr_of sh_37.1
        have r := hD_RA 37
        rw [e1] at r
        have r : ∀ j, 2 ≤ j → rOf (hD.2.2 37) j = none := r
        have e2 : rOf (hD.2.2 37) = fun j => ([some 58, some 75] : List (Option Nat)).getD j none := by
          funext j
          rcases (show j = 0 ∨ j = 1 ∨ 2 ≤ j by omega) with rfl | rfl | hj
          · exact sh_37.2.1
          · exact sh_37.2.2
          · rw [r j hj, List.getD_eq_getElem?_getD, List.getElem?_eq_none (show ([some 58, some 75] : List (Option Nat)).length ≤ j from hj)]
            rfl
        rw [e2] at e1
        exact e1
      · have e1 := shr_of sh_39.1
        have r := hD_RA 39
        rw [e1] at r
        have r : ∀ j, 4 ≤ j → rOf (hD.2.2 39) j = none := r
        have e2 : rOf (hD.2.2 39) = fun j => ([some 92, some 94, some 96, some 98] : List (Option Nat)).getD j none := by
          funext j
          rcases (show j = 0 ∨ j = 1 ∨ j = 2 ∨ j = 3 ∨ 4 ≤ j by omega) with rfl | rfl | rfl | rfl | hj
          · exact sh_39.2.1
          · exact sh_39.2.2.1
          · exact sh_39.2.2.2.1
          · exact sh_39.2.2.2.2
          · rw [r j hj, List.getD_eq_getElem?_getD, List.getElem?_eq_none (show ([some 92, some 94, some 96, some 98] : List (Option Nat)).length ≤ j from hj)]
            rfl
        rw [e2] at e1
        exact e1
      · exact (fill_sh h).symm
    · rw [tm_dead (by omega), hD_TL k (by omega)]
      rfl
  obtain ⟨e1, e2⟩ := nD
  have : hD = (hD.1, hD.2.1, hD.2.2) := rfl
  rw [this, e1, e2, e]
  rfl
theorem law_first (sc : Nat × (Nat → Int32)) : f_QuotaLawsLaw_law sc h00 = f_QuotaLawsLaw_law_18 sc FU 0 100 0 (bh v0 w0) := by
  unfold f_QuotaLawsLaw_law f_QuotaLawsLaw_law_0
  rw [show mkn h00 10 (.inr (0, [.null, .null, .null, .null, .null, .null, .null, .null, .null, .int 0])) = some hA from rfl, bd1_s]
  unfold grd
  rw [if_pos (show h00.1 < hA.1 by decide), show h00.1 = 0 from rfl, eB, bd1_s, nB, if_pos (by decide), if_pos (by decide), show mkn hB 39 (.inr (8, [.null, .null, .int 0, .int 0, .null, .null, .null, .null, .null, .null, .int 0, .int 0, .null, .null, .null, .null, .null, .int 0, .int 0, .null, .int 0, .int 0, .int 0, .int 0, .int 0, .int 0, .int 0, .null, .null, .null, .null, .null, .null, .null, .null, .null, .null, .null, .int 0])) = some hC from (by unfold mkn; rw [nB, if_pos (by decide)]; rfl), bd1_s]
  have nC : hC.1 = 101 := by show hB.1 + 1 = 101; rw [nB]
  rw [nC, if_pos (by decide), eD, bd1_s, nD.1, if_pos (by decide), hD_bh]

