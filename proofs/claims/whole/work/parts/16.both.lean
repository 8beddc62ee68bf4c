/-! both sides: settle, read -/
section
variable {kd wd wn la mq lc xo xq km kl ko kq : Int32} {ek et ev ar tk ie oc rc kt ki kc : Nat → Int32}
variable {pp : Int32} {co b cp : Nat → Int32} {dn W ln n r : Nat} {an : Nat → Nat}
theorem bo_et (hS : rl_S kd wd pp la dn W ln an ek et ar co) (j : Nat) : 0 ≤ (et j).toInt ∧ (et j).toInt ≤ 63 := by
  obtain ⟨c, h1, _, _, h4⟩ := hS.2.2.2.2.2.2.2.2.2.2.2 j
  rw [h4, nI_toInt (by omega)]
  omega
theorem bo_sn {sn T : Nat} {L : List ro_T} (hB : rl_B kd wd pp b sn L) (hk : kd = 2 → W = 1) (hc : ro_cs L ≤ W * T) (hT : T ≤ 60) : sn ≤ T := by
  have h1 := rl_sn hB
  have h2 := ro_len hB.1
  by_cases z : kd = 2
  · rw [hk z, Nat.one_mul] at hc
    omega
  · have := (hB.2.2 z).2.1
    omega
theorem bo_settle (hS : rl_S kd wd pp la dn W ln an ek et ar co) (hN : rl_N kd wd pp W et an tk ie oc rc mq lc n r b) :
    ∃ (oc' rc' b' : Nat → Int32) (mq' : Int32) (n' r' : Nat), rl_N kd wd pp W et an tk ie oc' rc' mq' lc n' r' b' ∧ r ≤ r' ∧ (∀ j, j < r * 7 → rc' j = rc j) ∧
      (∀ post : SX → Prop, post (kd, wd, wn, la, mq', lc, nI n, nI r, km, kl, ko, kq, ek, et, ev, ar, tk, ie, oc, rc, kt, ki, kc) → wpX_raiseMark post (kd, wd, wn, la, mq, lc, nI n, nI r, km, kl, ko, kq, ek, et, ev, ar, tk, ie, oc, rc, kt, ki, kc)) ∧
      (∀ post : SX → Prop, post (kd, wd, wn, la, mq', lc, nI n', nI r', km, kl, ko, kq, ek, et, ev, ar, tk, ie, oc', rc', kt, ki, kc) → wpX_closeDueRows post (kd, wd, wn, la, mq', lc, nI n, nI r, km, kl, ko, kq, ek, et, ev, ar, tk, ie, oc, rc, kt, ki, kc)) ∧
      (∀ post : Int32 → SY → Prop, post (nI r' - nI r) (kd, wd, pp, la, ar, co, ev, b', cp) → wpY_settle post (kd, wd, pp, la, ar, co, ev, b, cp)) := by
  have het := bo_et hS
  obtain ⟨s1, s2, s3, s4, s5, s6, s7, s8, s9, s10, s11, s12⟩ := hS
  obtain ⟨tn, sn, t1, ⟨t2, t3, t4, t5, t6⟩, t7, t8, t9, t10⟩ := hN
  have hT : tn 0 + tn 1 + tn 2 ≤ 60 := by
    have a0 := (t1 0 (by omega)).2.1
    have a1 := (t1 1 (by omega)).2.1
    have a2 := (t1 2 (by omega)).2.1
    have b0 := (s11 0 (by omega)).2
    have b1 := (s11 1 (by omega)).2
    have b2 := (s11 2 (by omega)).2
    omega
  have hWT : W * (tn 0 + tn 1 + tn 2) ≤ 4 * 60 := Nat.mul_le_mul s7 hT
  have hsn := bo_sn t7 s2 t8 hT
  have hwi : wd.toInt = (dn : Int) := by rw [s3, nI_toInt (by omega)]
  have htk : ∀ s, s < 3 → tk s = nI (tn s) ∧ tn s ≤ 20 := fun s hs => ⟨(t1 s hs).1, by have := (t1 s hs).2.1; have := (s11 s hs).2; omega⟩
  have hx1 := xm_raise (kd := kd) (wd := wd) (wn := wn) (la := la) (mq := mq) (lc := lc) (xo := nI n) (xq := nI r) (km := km) (kl := kl) (ko := ko) (kq := kq) (ek := ek) (et := et) (ev := ev) (ar := ar) (tk := tk) (ie := ie) (oc := oc) (rc := rc) (kt := kt) (ki := ki) (kc := kc) htk s9 s10 (fun s _ i _ => het _) t3
  obtain ⟨b1, m1, m2, m3⟩ := ym_all (kd := kd) (dd := wd) (pp := pp) (la := la) (sz := ar) (co := co) (va := ev) (cp := cp) (b := b) (fun s => mk_ow la (mk_tp (fun i => et (s * 20 + i)) (tn s))) ie (fun s hs => by rw [(t1 s hs).2.2.2.2.2]) (fun s hs => ((t1 s hs).2.2.2.1).symm)
  rw [t2] at m1
  have hmb : -1000 ≤ (mk_nw mq (mk_le (fun s => mk_ow la (mk_tp (fun i => et (s * 20 + i)) (tn s))) ie 3)).toInt := mk_nwb t3
  generalize mk_nw mq (mk_le (fun s => mk_ow la (mk_tp (fun i => et (s * 20 + i)) (tn s))) ie 3) = mq' at *
  have hB1 : rl_B kd wd pp b1 sn (xr_L oc n) := rl_Bc t7 (by omega) (fun j h1 h2 => m2 j (by omega))
  have hds := rl_ds (by omega) (by omega) hB1
  obtain ⟨oc', rc', n', r', D, x1, x2, x3, x4, x5, x6⟩ := xc_all (kd := kd) (wd := wd) (wn := wn) (la := la) (mq := mq') (lc := lc) (km := km) (kl := kl) (ko := ko) (kq := kq) (ek := ek) (et := et) (ev := ev) (ar := ar) (tk := tk) (ie := ie) (oc := oc) (rc := rc) (kt := kt) (ki := ki) (kc := kc) (n := n) (r := r) (by omega) hds
  have hyr : yr_L b1 r = yr_L b r := yr_c (fun j h1 h2 => m2 j (by omega))
  have hy : ∃ (b2 : Nat → Int32) (sn' : Nat) (D' : List ro_T), (kd = 2 → cl_R mq' (ys_L wd b1 sn) D' (ys_L wd b2 sn') ∧ ∀ q, q < 272 → b2 (wy_a q) = 0) ∧ (¬ kd = 2 → cl_R mq' (wy_L wd pp b1 272) D' (wy_L wd pp b2 272) ∧ sn' = 0 ∧ ∀ q, q < 272 → 0 ≤ b2 (wy_a q)) ∧ b2 12 = nI sn' ∧ b2 11 = nI (r + D'.length) ∧ yr_L b2 (r + D'.length) = yr_L b r ++ D' ∧ (∀ j, j < 11 → b2 j = b1 j) ∧ ∀ post : Int32 → SY → Prop, post (b2 11 - nI r) (kd, wd, pp, la, ar, co, ev, b2, cp) → wpY_settle post (kd, wd, pp, la, ar, co, ev, b, cp) := by
    by_cases z : kd = 2
    · obtain ⟨c1, c2, c3, c4⟩ := hB1.2.1 z
      obtain ⟨b2, sn', D', y1, y2, y3, y4, y5, y6⟩ := yc_ses (kd := kd) (dd := wd) (pp := pp) (la := la) (sz := ar) (co := co) (va := ev) (cp := cp) (b := b1) (n := sn) (r := r) (by omega) (by omega) (by omega) (by have := rl_sn hB1; unfold xr_L at this; rw [li_len] at this; omega) (by rw [m2 12 (by omega)]; exact t6) (by rw [m2 11 (by omega)]; exact t5) (fun q hq => c4 q (c1.mem_iff.mpr hq)) (ro_ds_p c1 hds)
      rw [m1] at y1
      rw [hyr] at y4
      refine ⟨b2, sn', D', fun _ => ⟨y1, fun q hq => ?_⟩, fun y => absurd z y, y2, y3, y4, fun j hj => y5 j (by omega) (by omega) (by omega), fun post hp => ?_⟩
      · have := wy_lt hq
        rw [y5 _ (by omega) (by omega) (by omega)]
        exact c2 q hq
      · unfold wpY_settle
        dsimp only
        refine nm_r (e' := nI r) t5 (m3 _ ?_)
        dsimp only
        exact br_t z (y6 _ hp)
    · obtain ⟨c1, c2, c3⟩ := hB1.2.2 z
      have hlen := c1.length_eq
      unfold xr_L at hlen
      rw [li_len] at hlen
      have hgo : ∀ (d p : Int32), d = nI dn → p = nI dn * nI W → (∀ q, q < 272 → 0 ≤ b1 (wy_a q)) → r + (wy_L d p b1 272).length ≤ 240 → b1 11 = nI r → ∃ (b' : Nat → Int32) (D : List ro_T), cl_R (b1 9) (wy_L d p b1 272) D (wy_L d p b' 272) ∧ (∀ q, q < 272 → 0 ≤ b' (wy_a q)) ∧ b' 11 = nI (r + D.length) ∧ yr_L b' (r + D.length) = yr_L b1 r ++ D ∧ (∀ j, j ≠ 11 → (j < 16 ∨ (1104 ≤ j ∧ j < 1524)) → b' j = b1 j) ∧ ∀ post : SY → Prop, post (kd, d, p, la, ar, co, ev, b', cp) → wpY_closeWindows post (kd, d, p, la, ar, co, ev, b1, cp) := by
        intro d p e1 e2
        subst e1 e2
        exact fun q1 q2 q3 => yc_win (kd := kd) (la := la) (sz := ar) (co := co) (va := ev) (cp := cp) (b := b1) s4 s5 s6 s7 q1 q2 q3
      obtain ⟨b2, D', y1, y2, y3, y4, y5, y6⟩ := hgo wd pp s3 s8 c3 (by omega) (by rw [m2 11 (by omega)]; exact t5)
      rw [m1] at y1
      rw [hyr] at y4
      refine ⟨b2, sn, D', fun y => absurd y z, fun _ => ⟨y1, c2, y2⟩, ?_, y3, y4, fun j hj => y5 j (by omega) (by omega), fun post hp => ?_⟩
      · rw [y5 12 (by omega) (by omega), m2 12 (by omega)]
        exact t6
      · unfold wpY_settle
        dsimp only
        refine nm_r (e' := nI r) t5 (m3 _ ?_)
        dsimp only
        exact br_f z (y6 _ hp)
  obtain ⟨b2, sn', D', y1, y2, y3, y4, y5, y6, y7⟩ := hy
  obtain ⟨u1, u2, u3, u4⟩ := rl_cl hB1 x1 y1 y2
  subst u1
  refine ⟨oc', rc', b2, mq', n', r', ⟨tn, sn', ?_, ⟨?_, hmb, ?_, ?_, y3⟩, u2, by omega, by omega, ?_⟩, by omega, x5, hx1, x6, fun post hp => y7 post ?_⟩
  · intro s hs
    obtain ⟨w1, w2, w3, w4, w5, w6⟩ := t1 s hs
    refine ⟨w1, w2, ?_, ?_, w5, ?_⟩
    · rw [y6 s (by omega), m2 s (by omega)]; exact w3
    · rw [y6 (3 + s) (by omega), m2 (3 + s) (by omega)]; exact w4
    · rw [y6 (6 + s) (by omega), m2 (6 + s) (by omega)]; exact w6
  · rw [y6 9 (by omega)]; exact m1
  · rw [y6 10 (by omega), m2 10 (by omega)]; exact t4
  · rw [x2]; exact y4
  · rw [x4, x2, y5, t10]
  · rw [y4, ← x2]
    exact hp
end
