/-! the relation: what is now (or kept) of the component against the reference's cells -/
def rl_N (kd d p : Int32) (W : Nat) (et : Nat → Int32) (an : Nat → Nat) (tk id c rc : Nat → Int32) (mq lt : Int32) (n rn : Nat) (b : Nat → Int32) : Prop :=
  ∃ (tn : Nat → Nat) (sn : Nat),
    (∀ s, s < 3 → tk s = nI (tn s) ∧ tn s ≤ an s ∧ b s = nI (tn s) ∧ b (3 + s) = id s ∧ (id s = 0 ∨ id s = 1) ∧ b (6 + s) = mk_tp (fun i => et (s * 20 + i)) (tn s)) ∧
    (b 9 = mq ∧ -1000 ≤ mq.toInt ∧ b 10 = lt ∧ b 11 = nI rn ∧ b 12 = nI sn) ∧
    rl_B kd d p b sn (xr_L c n) ∧
    ro_cs (xr_L c n) ≤ W * (tn 0 + tn 1 + tn 2) ∧ n + rn ≤ W * (tn 0 + tn 1 + tn 2) ∧
    xr_L rc rn = yr_L b rn
/-- the settings and the events of the sources -/
def rl_S (kd d p la : Int32) (dn W ln : Nat) (an : Nat → Nat) (ek et ar co : Nat → Int32) : Prop :=
  (kd = 0 ∨ kd = 1 ∨ kd = 2) ∧ (kd = 2 → W = 1) ∧ d = nI dn ∧ 1 ≤ dn ∧ dn ≤ 8 ∧ 1 ≤ W ∧ W ≤ 4 ∧ p = nI dn * nI W ∧ la = nI ln ∧ ln ≤ 20 ∧
  (∀ s, s < 3 → ar s = nI (an s) ∧ an s ≤ 20) ∧ (∀ j, ∃ c, c < 256 ∧ co j = nI c ∧ ek j = nI (c / 64) ∧ et j = nI (c % 64))
def rl_P (u : SX) (v : SY) : Prop :=
  match u, v with
  | (kd, wd, wn, la, mq, lc, xo, xq, km, kl, ko, kq, ek, et, ev, ar, tk, ie, oc, rc, kt, ki, kc), (kd', dd, pp, la', sz, co, va, b, cp) =>
    kd = kd' ∧ wd = dd ∧ la = la' ∧ ar = sz ∧ ev = va ∧
    ∃ (dn W ln : Nat) (an : Nat → Nat) (n r n2 r2 : Nat), wn = nI W ∧ xo = nI n ∧ xq = nI r ∧ ko = nI n2 ∧ kq = nI r2 ∧ r2 ≤ r ∧
      rl_S kd wd pp la dn W ln an ek et ar co ∧
      rl_N kd wd pp W et an tk ie oc rc mq lc n r b ∧
      rl_N kd wd pp W et an kt ki kc rc km kl n2 r2 cp
def i_Rel (k : Nat) (u : SX) (v : SY) : Prop := rl_P u v
theorem i_up {k : Nat} {u : SX} {v : SY} (h : i_Rel k u v) : i_Rel (k + 3) u v := h
