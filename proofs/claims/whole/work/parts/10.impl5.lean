/-! code that keeps a word: truths, the order of deeds, calls -/
theorem jC_icmp_eq_p {K : jKm} {G : jCt} {d d1 pc p1 p2 p3 tgt : Nat} {a b : jEx} {off : Int} (ha : jE K G d pc p1 20 a) (hb : jE K G d1 p1 p2 20 b) (hd : decode (kmC K) p2 = .ok (.if_icmp .eq off, 3)) (hp : p3 = p2 + 3) (ht : (p2 : Int) + off = (tgt : Int)) (hd1 : d1 = d + 1) : jC K G d pc tgt p3 (kR (fun x y => x = y) a b) := by
  subst hp; subst hd1
  intro z X hO L M T F ls st hV hc hq hT hF
  refine ha z X hO L M _ ls st hV hc hq (fun x M1 hv1 hq1 => ?_)
  refine hb z X hO L M1 _ ls _ hV (cats_push hc) hq1 (fun y M2 hv2 hq2 => ?_)
  rw [jtk20] at hv1 hv2
  obtain ⟨p, l, e, R, s, m, args, below, meth, c, ce, sl, Qf⟩ := X
  obtain ⟨-, -, hx, hb, -⟩ := jO_facts hO
  intro H locs hI hL
  refine lv_icmp_eq hx hb hd ht (fun q => ?_) (fun q => ?_)
  · have q : x = y := (eq32 hv1 hv2).mp q
    exact hT M2 (hq2.1 q) H locs hI hL
  · have q : ¬ x = y := fun h => q ((eq32 hv1 hv2).mpr h)
    exact hF M2 (hq2.2 q) H locs hI hL
theorem jC_if_eq_p {K : jKm} {G : jCt} {d pc p1 p3 tgt : Nat} {a : jEx} {off : Int} (ha : jE K G d pc p1 20 a) (hd : decode (kmC K) p1 = .ok (.ifCond .eq off, 3)) (hp : p3 = p1 + 3) (ht : (p1 : Int) + off = (tgt : Int)) : jC K G d pc tgt p3 (kZ (fun x y => x = y) a) := by
  subst hp
  intro z X hO L M T F ls st hV hc hq hT hF
  refine ha z X hO L M _ ls st hV hc hq (fun x M2 hv1 hq2 => ?_)
  rw [jtk20] at hv1
  have hv2 : ir 0 := ⟨by decide, by decide⟩
  obtain ⟨p, l, e, R, s, m, args, below, meth, c, ce, sl, Qf⟩ := X
  obtain ⟨-, -, hx, hb, -⟩ := jO_facts hO
  intro H locs hI hL
  refine lv_if_eq hx hb hd ht (fun q => ?_) (fun q => ?_)
  · have q : x = 0 := (eq32 hv1 hv2).mp q
    exact hT M2 (hq2.1 q) H locs hI hL
  · have q : ¬ x = 0 := fun h => q ((eq32 hv1 hv2).mpr h)
    exact hF M2 (hq2.2 q) H locs hI hL
theorem jC_icmp_eq_n {K : jKm} {G : jCt} {d d1 pc p1 p2 p3 tgt : Nat} {a b : jEx} {off : Int} (ha : jE K G d pc p1 20 a) (hb : jE K G d1 p1 p2 20 b) (hd : decode (kmC K) p2 = .ok (.if_icmp .eq off, 3)) (hp : p3 = p2 + 3) (ht : (p2 : Int) + off = (tgt : Int)) (hd1 : d1 = d + 1) : jC K G d pc p3 tgt (kR (fun x y => x ≠ y) a b) := by
  subst hp; subst hd1
  intro z X hO L M T F ls st hV hc hq hT hF
  refine ha z X hO L M _ ls st hV hc hq (fun x M1 hv1 hq1 => ?_)
  refine hb z X hO L M1 _ ls _ hV (cats_push hc) hq1 (fun y M2 hv2 hq2 => ?_)
  rw [jtk20] at hv1 hv2
  obtain ⟨p, l, e, R, s, m, args, below, meth, c, ce, sl, Qf⟩ := X
  obtain ⟨-, -, hx, hb, -⟩ := jO_facts hO
  intro H locs hI hL
  refine lv_icmp_eq hx hb hd ht (fun q => ?_) (fun q => ?_)
  · have q : x = y := (eq32 hv1 hv2).mp q
    exact hF M2 (hq2.2 (fun h => h q)) H locs hI hL
  · have q : ¬ x = y := fun h => q ((eq32 hv1 hv2).mpr h)
    exact hT M2 (hq2.1 q) H locs hI hL
theorem jC_if_eq_n {K : jKm} {G : jCt} {d pc p1 p3 tgt : Nat} {a : jEx} {off : Int} (ha : jE K G d pc p1 20 a) (hd : decode (kmC K) p1 = .ok (.ifCond .eq off, 3)) (hp : p3 = p1 + 3) (ht : (p1 : Int) + off = (tgt : Int)) : jC K G d pc p3 tgt (kZ (fun x y => x ≠ y) a) := by
  subst hp
  intro z X hO L M T F ls st hV hc hq hT hF
  refine ha z X hO L M _ ls st hV hc hq (fun x M2 hv1 hq2 => ?_)
  rw [jtk20] at hv1
  have hv2 : ir 0 := ⟨by decide, by decide⟩
  obtain ⟨p, l, e, R, s, m, args, below, meth, c, ce, sl, Qf⟩ := X
  obtain ⟨-, -, hx, hb, -⟩ := jO_facts hO
  intro H locs hI hL
  refine lv_if_eq hx hb hd ht (fun q => ?_) (fun q => ?_)
  · have q : x = 0 := (eq32 hv1 hv2).mp q
    exact hF M2 (hq2.2 (fun h => h q)) H locs hI hL
  · have q : ¬ x = 0 := fun h => q ((eq32 hv1 hv2).mpr h)
    exact hT M2 (hq2.1 q) H locs hI hL
theorem jC_icmp_ne_p {K : jKm} {G : jCt} {d d1 pc p1 p2 p3 tgt : Nat} {a b : jEx} {off : Int} (ha : jE K G d pc p1 20 a) (hb : jE K G d1 p1 p2 20 b) (hd : decode (kmC K) p2 = .ok (.if_icmp .ne off, 3)) (hp : p3 = p2 + 3) (ht : (p2 : Int) + off = (tgt : Int)) (hd1 : d1 = d + 1) : jC K G d pc tgt p3 (kR (fun x y => x ≠ y) a b) := by
  subst hp; subst hd1
  intro z X hO L M T F ls st hV hc hq hT hF
  refine ha z X hO L M _ ls st hV hc hq (fun x M1 hv1 hq1 => ?_)
  refine hb z X hO L M1 _ ls _ hV (cats_push hc) hq1 (fun y M2 hv2 hq2 => ?_)
  rw [jtk20] at hv1 hv2
  obtain ⟨p, l, e, R, s, m, args, below, meth, c, ce, sl, Qf⟩ := X
  obtain ⟨-, -, hx, hb, -⟩ := jO_facts hO
  intro H locs hI hL
  refine lv_icmp_ne hx hb hd ht (fun q => ?_) (fun q => ?_)
  · have q : ¬ x = y := fun h => q ((eq32 hv1 hv2).mpr h)
    exact hT M2 (hq2.1 q) H locs hI hL
  · have q : x = y := (eq32 hv1 hv2).mp q
    exact hF M2 (hq2.2 (fun h => h q)) H locs hI hL
theorem jC_if_ne_p {K : jKm} {G : jCt} {d pc p1 p3 tgt : Nat} {a : jEx} {off : Int} (ha : jE K G d pc p1 20 a) (hd : decode (kmC K) p1 = .ok (.ifCond .ne off, 3)) (hp : p3 = p1 + 3) (ht : (p1 : Int) + off = (tgt : Int)) : jC K G d pc tgt p3 (kZ (fun x y => x ≠ y) a) := by
  subst hp
  intro z X hO L M T F ls st hV hc hq hT hF
  refine ha z X hO L M _ ls st hV hc hq (fun x M2 hv1 hq2 => ?_)
  rw [jtk20] at hv1
  have hv2 : ir 0 := ⟨by decide, by decide⟩
  obtain ⟨p, l, e, R, s, m, args, below, meth, c, ce, sl, Qf⟩ := X
  obtain ⟨-, -, hx, hb, -⟩ := jO_facts hO
  intro H locs hI hL
  refine lv_if_ne hx hb hd ht (fun q => ?_) (fun q => ?_)
  · have q : ¬ x = 0 := fun h => q ((eq32 hv1 hv2).mpr h)
    exact hT M2 (hq2.1 q) H locs hI hL
  · have q : x = 0 := (eq32 hv1 hv2).mp q
    exact hF M2 (hq2.2 (fun h => h q)) H locs hI hL
theorem jC_icmp_ne_n {K : jKm} {G : jCt} {d d1 pc p1 p2 p3 tgt : Nat} {a b : jEx} {off : Int} (ha : jE K G d pc p1 20 a) (hb : jE K G d1 p1 p2 20 b) (hd : decode (kmC K) p2 = .ok (.if_icmp .ne off, 3)) (hp : p3 = p2 + 3) (ht : (p2 : Int) + off = (tgt : Int)) (hd1 : d1 = d + 1) : jC K G d pc p3 tgt (kR (fun x y => x = y) a b) := by
  subst hp; subst hd1
  intro z X hO L M T F ls st hV hc hq hT hF
  refine ha z X hO L M _ ls st hV hc hq (fun x M1 hv1 hq1 => ?_)
  refine hb z X hO L M1 _ ls _ hV (cats_push hc) hq1 (fun y M2 hv2 hq2 => ?_)
  rw [jtk20] at hv1 hv2
  obtain ⟨p, l, e, R, s, m, args, below, meth, c, ce, sl, Qf⟩ := X
  obtain ⟨-, -, hx, hb, -⟩ := jO_facts hO
  intro H locs hI hL
  refine lv_icmp_ne hx hb hd ht (fun q => ?_) (fun q => ?_)
  · have q : ¬ x = y := fun h => q ((eq32 hv1 hv2).mpr h)
    exact hF M2 (hq2.2 q) H locs hI hL
  · have q : x = y := (eq32 hv1 hv2).mp q
    exact hT M2 (hq2.1 q) H locs hI hL
theorem jC_if_ne_n {K : jKm} {G : jCt} {d pc p1 p3 tgt : Nat} {a : jEx} {off : Int} (ha : jE K G d pc p1 20 a) (hd : decode (kmC K) p1 = .ok (.ifCond .ne off, 3)) (hp : p3 = p1 + 3) (ht : (p1 : Int) + off = (tgt : Int)) : jC K G d pc p3 tgt (kZ (fun x y => x = y) a) := by
  subst hp
  intro z X hO L M T F ls st hV hc hq hT hF
  refine ha z X hO L M _ ls st hV hc hq (fun x M2 hv1 hq2 => ?_)
  rw [jtk20] at hv1
  have hv2 : ir 0 := ⟨by decide, by decide⟩
  obtain ⟨p, l, e, R, s, m, args, below, meth, c, ce, sl, Qf⟩ := X
  obtain ⟨-, -, hx, hb, -⟩ := jO_facts hO
  intro H locs hI hL
  refine lv_if_ne hx hb hd ht (fun q => ?_) (fun q => ?_)
  · have q : ¬ x = 0 := fun h => q ((eq32 hv1 hv2).mpr h)
    exact hF M2 (hq2.2 q) H locs hI hL
  · have q : x = 0 := (eq32 hv1 hv2).mp q
    exact hT M2 (hq2.1 q) H locs hI hL
theorem jC_icmp_lt_p {K : jKm} {G : jCt} {d d1 pc p1 p2 p3 tgt : Nat} {a b : jEx} {off : Int} (ha : jE K G d pc p1 20 a) (hb : jE K G d1 p1 p2 20 b) (hd : decode (kmC K) p2 = .ok (.if_icmp .lt off, 3)) (hp : p3 = p2 + 3) (ht : (p2 : Int) + off = (tgt : Int)) (hd1 : d1 = d + 1) : jC K G d pc tgt p3 (kR (fun x y => x < y) a b) := by
  subst hp; subst hd1
  intro z X hO L M T F ls st hV hc hq hT hF
  refine ha z X hO L M _ ls st hV hc hq (fun x M1 hv1 hq1 => ?_)
  refine hb z X hO L M1 _ ls _ hV (cats_push hc) hq1 (fun y M2 hv2 hq2 => ?_)
  rw [jtk20] at hv1 hv2
  obtain ⟨p, l, e, R, s, m, args, below, meth, c, ce, sl, Qf⟩ := X
  obtain ⟨-, -, hx, hb, -⟩ := jO_facts hO
  intro H locs hI hL
  refine lv_icmp_lt hx hb hd ht (fun q => ?_) (fun q => ?_)
  · have q := (lt32 hv1 hv2).mp q
    exact hT M2 (hq2.1 (by omega)) H locs hI hL
  · have q : ¬ (x < y) := fun h => q ((lt32 hv1 hv2).mpr h)
    exact hF M2 (hq2.2 (by omega)) H locs hI hL
theorem jC_if_lt_p {K : jKm} {G : jCt} {d pc p1 p3 tgt : Nat} {a : jEx} {off : Int} (ha : jE K G d pc p1 20 a) (hd : decode (kmC K) p1 = .ok (.ifCond .lt off, 3)) (hp : p3 = p1 + 3) (ht : (p1 : Int) + off = (tgt : Int)) : jC K G d pc tgt p3 (kZ (fun x y => x < y) a) := by
  subst hp
  intro z X hO L M T F ls st hV hc hq hT hF
  refine ha z X hO L M _ ls st hV hc hq (fun x M2 hv1 hq2 => ?_)
  rw [jtk20] at hv1
  have hv2 : ir 0 := ⟨by decide, by decide⟩
  obtain ⟨p, l, e, R, s, m, args, below, meth, c, ce, sl, Qf⟩ := X
  obtain ⟨-, -, hx, hb, -⟩ := jO_facts hO
  intro H locs hI hL
  refine lv_if_lt hx hb hd ht (fun q => ?_) (fun q => ?_)
  · have q := (lt32 hv1 hv2).mp q
    exact hT M2 (hq2.1 (by omega)) H locs hI hL
  · have q : ¬ (x < 0) := fun h => q ((lt32 hv1 hv2).mpr h)
    exact hF M2 (hq2.2 (by omega)) H locs hI hL
theorem jC_icmp_lt_n {K : jKm} {G : jCt} {d d1 pc p1 p2 p3 tgt : Nat} {a b : jEx} {off : Int} (ha : jE K G d pc p1 20 a) (hb : jE K G d1 p1 p2 20 b) (hd : decode (kmC K) p2 = .ok (.if_icmp .lt off, 3)) (hp : p3 = p2 + 3) (ht : (p2 : Int) + off = (tgt : Int)) (hd1 : d1 = d + 1) : jC K G d pc p3 tgt (kR (fun x y => x ≥ y) a b) := by
  subst hp; subst hd1
  intro z X hO L M T F ls st hV hc hq hT hF
  refine ha z X hO L M _ ls st hV hc hq (fun x M1 hv1 hq1 => ?_)
  refine hb z X hO L M1 _ ls _ hV (cats_push hc) hq1 (fun y M2 hv2 hq2 => ?_)
  rw [jtk20] at hv1 hv2
  obtain ⟨p, l, e, R, s, m, args, below, meth, c, ce, sl, Qf⟩ := X
  obtain ⟨-, -, hx, hb, -⟩ := jO_facts hO
  intro H locs hI hL
  refine lv_icmp_lt hx hb hd ht (fun q => ?_) (fun q => ?_)
  · have q := (lt32 hv1 hv2).mp q
    exact hF M2 (hq2.2 (by omega)) H locs hI hL
  · have q : ¬ (x < y) := fun h => q ((lt32 hv1 hv2).mpr h)
    exact hT M2 (hq2.1 (by omega)) H locs hI hL
theorem jC_if_lt_n {K : jKm} {G : jCt} {d pc p1 p3 tgt : Nat} {a : jEx} {off : Int} (ha : jE K G d pc p1 20 a) (hd : decode (kmC K) p1 = .ok (.ifCond .lt off, 3)) (hp : p3 = p1 + 3) (ht : (p1 : Int) + off = (tgt : Int)) : jC K G d pc p3 tgt (kZ (fun x y => x ≥ y) a) := by
  subst hp
  intro z X hO L M T F ls st hV hc hq hT hF
  refine ha z X hO L M _ ls st hV hc hq (fun x M2 hv1 hq2 => ?_)
  rw [jtk20] at hv1
  have hv2 : ir 0 := ⟨by decide, by decide⟩
  obtain ⟨p, l, e, R, s, m, args, below, meth, c, ce, sl, Qf⟩ := X
  obtain ⟨-, -, hx, hb, -⟩ := jO_facts hO
  intro H locs hI hL
  refine lv_if_lt hx hb hd ht (fun q => ?_) (fun q => ?_)
  · have q := (lt32 hv1 hv2).mp q
    exact hF M2 (hq2.2 (by omega)) H locs hI hL
  · have q : ¬ (x < 0) := fun h => q ((lt32 hv1 hv2).mpr h)
    exact hT M2 (hq2.1 (by omega)) H locs hI hL
theorem jC_icmp_ge_p {K : jKm} {G : jCt} {d d1 pc p1 p2 p3 tgt : Nat} {a b : jEx} {off : Int} (ha : jE K G d pc p1 20 a) (hb : jE K G d1 p1 p2 20 b) (hd : decode (kmC K) p2 = .ok (.if_icmp .ge off, 3)) (hp : p3 = p2 + 3) (ht : (p2 : Int) + off = (tgt : Int)) (hd1 : d1 = d + 1) : jC K G d pc tgt p3 (kR (fun x y => x ≥ y) a b) := by
  subst hp; subst hd1
  intro z X hO L M T F ls st hV hc hq hT hF
  refine ha z X hO L M _ ls st hV hc hq (fun x M1 hv1 hq1 => ?_)
  refine hb z X hO L M1 _ ls _ hV (cats_push hc) hq1 (fun y M2 hv2 hq2 => ?_)
  rw [jtk20] at hv1 hv2
  obtain ⟨p, l, e, R, s, m, args, below, meth, c, ce, sl, Qf⟩ := X
  obtain ⟨-, -, hx, hb, -⟩ := jO_facts hO
  intro H locs hI hL
  refine lv_icmp_ge hx hb hd ht (fun q => ?_) (fun q => ?_)
  · have q := (le32 hv2 hv1).mp q
    exact hT M2 (hq2.1 (by omega)) H locs hI hL
  · have q : ¬ (y ≤ x) := fun h => q ((le32 hv2 hv1).mpr h)
    exact hF M2 (hq2.2 (by omega)) H locs hI hL
theorem jC_if_ge_p {K : jKm} {G : jCt} {d pc p1 p3 tgt : Nat} {a : jEx} {off : Int} (ha : jE K G d pc p1 20 a) (hd : decode (kmC K) p1 = .ok (.ifCond .ge off, 3)) (hp : p3 = p1 + 3) (ht : (p1 : Int) + off = (tgt : Int)) : jC K G d pc tgt p3 (kZ (fun x y => x ≥ y) a) := by
  subst hp
  intro z X hO L M T F ls st hV hc hq hT hF
  refine ha z X hO L M _ ls st hV hc hq (fun x M2 hv1 hq2 => ?_)
  rw [jtk20] at hv1
  have hv2 : ir 0 := ⟨by decide, by decide⟩
  obtain ⟨p, l, e, R, s, m, args, below, meth, c, ce, sl, Qf⟩ := X
  obtain ⟨-, -, hx, hb, -⟩ := jO_facts hO
  intro H locs hI hL
  refine lv_if_ge hx hb hd ht (fun q => ?_) (fun q => ?_)
  · have q := (le32 hv2 hv1).mp q
    exact hT M2 (hq2.1 (by omega)) H locs hI hL
  · have q : ¬ (0 ≤ x) := fun h => q ((le32 hv2 hv1).mpr h)
    exact hF M2 (hq2.2 (by omega)) H locs hI hL
theorem jC_icmp_ge_n {K : jKm} {G : jCt} {d d1 pc p1 p2 p3 tgt : Nat} {a b : jEx} {off : Int} (ha : jE K G d pc p1 20 a) (hb : jE K G d1 p1 p2 20 b) (hd : decode (kmC K) p2 = .ok (.if_icmp .ge off, 3)) (hp : p3 = p2 + 3) (ht : (p2 : Int) + off = (tgt : Int)) (hd1 : d1 = d + 1) : jC K G d pc p3 tgt (kR (fun x y => x < y) a b) := by
  subst hp; subst hd1
  intro z X hO L M T F ls st hV hc hq hT hF
  refine ha z X hO L M _ ls st hV hc hq (fun x M1 hv1 hq1 => ?_)
  refine hb z X hO L M1 _ ls _ hV (cats_push hc) hq1 (fun y M2 hv2 hq2 => ?_)
  rw [jtk20] at hv1 hv2
  obtain ⟨p, l, e, R, s, m, args, below, meth, c, ce, sl, Qf⟩ := X
  obtain ⟨-, -, hx, hb, -⟩ := jO_facts hO
  intro H locs hI hL
  refine lv_icmp_ge hx hb hd ht (fun q => ?_) (fun q => ?_)
  · have q := (le32 hv2 hv1).mp q
    exact hF M2 (hq2.2 (by omega)) H locs hI hL
  · have q : ¬ (y ≤ x) := fun h => q ((le32 hv2 hv1).mpr h)
    exact hT M2 (hq2.1 (by omega)) H locs hI hL
theorem jC_if_ge_n {K : jKm} {G : jCt} {d pc p1 p3 tgt : Nat} {a : jEx} {off : Int} (ha : jE K G d pc p1 20 a) (hd : decode (kmC K) p1 = .ok (.ifCond .ge off, 3)) (hp : p3 = p1 + 3) (ht : (p1 : Int) + off = (tgt : Int)) : jC K G d pc p3 tgt (kZ (fun x y => x < y) a) := by
  subst hp
  intro z X hO L M T F ls st hV hc hq hT hF
  refine ha z X hO L M _ ls st hV hc hq (fun x M2 hv1 hq2 => ?_)
  rw [jtk20] at hv1
  have hv2 : ir 0 := ⟨by decide, by decide⟩
  obtain ⟨p, l, e, R, s, m, args, below, meth, c, ce, sl, Qf⟩ := X
  obtain ⟨-, -, hx, hb, -⟩ := jO_facts hO
  intro H locs hI hL
  refine lv_if_ge hx hb hd ht (fun q => ?_) (fun q => ?_)
  · have q := (le32 hv2 hv1).mp q
    exact hF M2 (hq2.2 (by omega)) H locs hI hL
  · have q : ¬ (0 ≤ x) := fun h => q ((le32 hv2 hv1).mpr h)
    exact hT M2 (hq2.1 (by omega)) H locs hI hL
theorem jC_icmp_gt_p {K : jKm} {G : jCt} {d d1 pc p1 p2 p3 tgt : Nat} {a b : jEx} {off : Int} (ha : jE K G d pc p1 20 a) (hb : jE K G d1 p1 p2 20 b) (hd : decode (kmC K) p2 = .ok (.if_icmp .gt off, 3)) (hp : p3 = p2 + 3) (ht : (p2 : Int) + off = (tgt : Int)) (hd1 : d1 = d + 1) : jC K G d pc tgt p3 (kR (fun x y => x > y) a b) := by
  subst hp; subst hd1
  intro z X hO L M T F ls st hV hc hq hT hF
  refine ha z X hO L M _ ls st hV hc hq (fun x M1 hv1 hq1 => ?_)
  refine hb z X hO L M1 _ ls _ hV (cats_push hc) hq1 (fun y M2 hv2 hq2 => ?_)
  rw [jtk20] at hv1 hv2
  obtain ⟨p, l, e, R, s, m, args, below, meth, c, ce, sl, Qf⟩ := X
  obtain ⟨-, -, hx, hb, -⟩ := jO_facts hO
  intro H locs hI hL
  refine lv_icmp_gt hx hb hd ht (fun q => ?_) (fun q => ?_)
  · have q := (lt32 hv2 hv1).mp q
    exact hT M2 (hq2.1 (by omega)) H locs hI hL
  · have q : ¬ (y < x) := fun h => q ((lt32 hv2 hv1).mpr h)
    exact hF M2 (hq2.2 (by omega)) H locs hI hL
theorem jC_if_gt_p {K : jKm} {G : jCt} {d pc p1 p3 tgt : Nat} {a : jEx} {off : Int} (ha : jE K G d pc p1 20 a) (hd : decode (kmC K) p1 = .ok (.ifCond .gt off, 3)) (hp : p3 = p1 + 3) (ht : (p1 : Int) + off = (tgt : Int)) : jC K G d pc tgt p3 (kZ (fun x y => x > y) a) := by
  subst hp
  intro z X hO L M T F ls st hV hc hq hT hF
  refine ha z X hO L M _ ls st hV hc hq (fun x M2 hv1 hq2 => ?_)
  rw [jtk20] at hv1
  have hv2 : ir 0 := ⟨by decide, by decide⟩
  obtain ⟨p, l, e, R, s, m, args, below, meth, c, ce, sl, Qf⟩ := X
  obtain ⟨-, -, hx, hb, -⟩ := jO_facts hO
  intro H locs hI hL
  refine lv_if_gt hx hb hd ht (fun q => ?_) (fun q => ?_)
  · have q := (lt32 hv2 hv1).mp q
    exact hT M2 (hq2.1 (by omega)) H locs hI hL
  · have q : ¬ (0 < x) := fun h => q ((lt32 hv2 hv1).mpr h)
    exact hF M2 (hq2.2 (by omega)) H locs hI hL
theorem jC_icmp_gt_n {K : jKm} {G : jCt} {d d1 pc p1 p2 p3 tgt : Nat} {a b : jEx} {off : Int} (ha : jE K G d pc p1 20 a) (hb : jE K G d1 p1 p2 20 b) (hd : decode (kmC K) p2 = .ok (.if_icmp .gt off, 3)) (hp : p3 = p2 + 3) (ht : (p2 : Int) + off = (tgt : Int)) (hd1 : d1 = d + 1) : jC K G d pc p3 tgt (kR (fun x y => x ≤ y) a b) := by
  subst hp; subst hd1
  intro z X hO L M T F ls st hV hc hq hT hF
  refine ha z X hO L M _ ls st hV hc hq (fun x M1 hv1 hq1 => ?_)
  refine hb z X hO L M1 _ ls _ hV (cats_push hc) hq1 (fun y M2 hv2 hq2 => ?_)
  rw [jtk20] at hv1 hv2
  obtain ⟨p, l, e, R, s, m, args, below, meth, c, ce, sl, Qf⟩ := X
  obtain ⟨-, -, hx, hb, -⟩ := jO_facts hO
  intro H locs hI hL
  refine lv_icmp_gt hx hb hd ht (fun q => ?_) (fun q => ?_)
  · have q := (lt32 hv2 hv1).mp q
    exact hF M2 (hq2.2 (by omega)) H locs hI hL
  · have q : ¬ (y < x) := fun h => q ((lt32 hv2 hv1).mpr h)
    exact hT M2 (hq2.1 (by omega)) H locs hI hL
theorem jC_if_gt_n {K : jKm} {G : jCt} {d pc p1 p3 tgt : Nat} {a : jEx} {off : Int} (ha : jE K G d pc p1 20 a) (hd : decode (kmC K) p1 = .ok (.ifCond .gt off, 3)) (hp : p3 = p1 + 3) (ht : (p1 : Int) + off = (tgt : Int)) : jC K G d pc p3 tgt (kZ (fun x y => x ≤ y) a) := by
  subst hp
  intro z X hO L M T F ls st hV hc hq hT hF
  refine ha z X hO L M _ ls st hV hc hq (fun x M2 hv1 hq2 => ?_)
  rw [jtk20] at hv1
  have hv2 : ir 0 := ⟨by decide, by decide⟩
  obtain ⟨p, l, e, R, s, m, args, below, meth, c, ce, sl, Qf⟩ := X
  obtain ⟨-, -, hx, hb, -⟩ := jO_facts hO
  intro H locs hI hL
  refine lv_if_gt hx hb hd ht (fun q => ?_) (fun q => ?_)
  · have q := (lt32 hv2 hv1).mp q
    exact hF M2 (hq2.2 (by omega)) H locs hI hL
  · have q : ¬ (0 < x) := fun h => q ((lt32 hv2 hv1).mpr h)
    exact hT M2 (hq2.1 (by omega)) H locs hI hL
theorem jC_icmp_le_p {K : jKm} {G : jCt} {d d1 pc p1 p2 p3 tgt : Nat} {a b : jEx} {off : Int} (ha : jE K G d pc p1 20 a) (hb : jE K G d1 p1 p2 20 b) (hd : decode (kmC K) p2 = .ok (.if_icmp .le off, 3)) (hp : p3 = p2 + 3) (ht : (p2 : Int) + off = (tgt : Int)) (hd1 : d1 = d + 1) : jC K G d pc tgt p3 (kR (fun x y => x ≤ y) a b) := by
  subst hp; subst hd1
  intro z X hO L M T F ls st hV hc hq hT hF
  refine ha z X hO L M _ ls st hV hc hq (fun x M1 hv1 hq1 => ?_)
  refine hb z X hO L M1 _ ls _ hV (cats_push hc) hq1 (fun y M2 hv2 hq2 => ?_)
  rw [jtk20] at hv1 hv2
  obtain ⟨p, l, e, R, s, m, args, below, meth, c, ce, sl, Qf⟩ := X
  obtain ⟨-, -, hx, hb, -⟩ := jO_facts hO
  intro H locs hI hL
  refine lv_icmp_le hx hb hd ht (fun q => ?_) (fun q => ?_)
  · have q := (le32 hv1 hv2).mp q
    exact hT M2 (hq2.1 (by omega)) H locs hI hL
  · have q : ¬ (x ≤ y) := fun h => q ((le32 hv1 hv2).mpr h)
    exact hF M2 (hq2.2 (by omega)) H locs hI hL
theorem jC_if_le_p {K : jKm} {G : jCt} {d pc p1 p3 tgt : Nat} {a : jEx} {off : Int} (ha : jE K G d pc p1 20 a) (hd : decode (kmC K) p1 = .ok (.ifCond .le off, 3)) (hp : p3 = p1 + 3) (ht : (p1 : Int) + off = (tgt : Int)) : jC K G d pc tgt p3 (kZ (fun x y => x ≤ y) a) := by
  subst hp
  intro z X hO L M T F ls st hV hc hq hT hF
  refine ha z X hO L M _ ls st hV hc hq (fun x M2 hv1 hq2 => ?_)
  rw [jtk20] at hv1
  have hv2 : ir 0 := ⟨by decide, by decide⟩
  obtain ⟨p, l, e, R, s, m, args, below, meth, c, ce, sl, Qf⟩ := X
  obtain ⟨-, -, hx, hb, -⟩ := jO_facts hO
  intro H locs hI hL
  refine lv_if_le hx hb hd ht (fun q => ?_) (fun q => ?_)
  · have q := (le32 hv1 hv2).mp q
    exact hT M2 (hq2.1 (by omega)) H locs hI hL
  · have q : ¬ (x ≤ 0) := fun h => q ((le32 hv1 hv2).mpr h)
    exact hF M2 (hq2.2 (by omega)) H locs hI hL
theorem jC_icmp_le_n {K : jKm} {G : jCt} {d d1 pc p1 p2 p3 tgt : Nat} {a b : jEx} {off : Int} (ha : jE K G d pc p1 20 a) (hb : jE K G d1 p1 p2 20 b) (hd : decode (kmC K) p2 = .ok (.if_icmp .le off, 3)) (hp : p3 = p2 + 3) (ht : (p2 : Int) + off = (tgt : Int)) (hd1 : d1 = d + 1) : jC K G d pc p3 tgt (kR (fun x y => x > y) a b) := by
  subst hp; subst hd1
  intro z X hO L M T F ls st hV hc hq hT hF
  refine ha z X hO L M _ ls st hV hc hq (fun x M1 hv1 hq1 => ?_)
  refine hb z X hO L M1 _ ls _ hV (cats_push hc) hq1 (fun y M2 hv2 hq2 => ?_)
  rw [jtk20] at hv1 hv2
  obtain ⟨p, l, e, R, s, m, args, below, meth, c, ce, sl, Qf⟩ := X
  obtain ⟨-, -, hx, hb, -⟩ := jO_facts hO
  intro H locs hI hL
  refine lv_icmp_le hx hb hd ht (fun q => ?_) (fun q => ?_)
  · have q := (le32 hv1 hv2).mp q
    exact hF M2 (hq2.2 (by omega)) H locs hI hL
  · have q : ¬ (x ≤ y) := fun h => q ((le32 hv1 hv2).mpr h)
    exact hT M2 (hq2.1 (by omega)) H locs hI hL
theorem jC_if_le_n {K : jKm} {G : jCt} {d pc p1 p3 tgt : Nat} {a : jEx} {off : Int} (ha : jE K G d pc p1 20 a) (hd : decode (kmC K) p1 = .ok (.ifCond .le off, 3)) (hp : p3 = p1 + 3) (ht : (p1 : Int) + off = (tgt : Int)) : jC K G d pc p3 tgt (kZ (fun x y => x > y) a) := by
  subst hp
  intro z X hO L M T F ls st hV hc hq hT hF
  refine ha z X hO L M _ ls st hV hc hq (fun x M2 hv1 hq2 => ?_)
  rw [jtk20] at hv1
  have hv2 : ir 0 := ⟨by decide, by decide⟩
  obtain ⟨p, l, e, R, s, m, args, below, meth, c, ce, sl, Qf⟩ := X
  obtain ⟨-, -, hx, hb, -⟩ := jO_facts hO
  intro H locs hI hL
  refine lv_if_le hx hb hd ht (fun q => ?_) (fun q => ?_)
  · have q := (le32 hv1 hv2).mp q
    exact hF M2 (hq2.2 (by omega)) H locs hI hL
  · have q : ¬ (x ≤ 0) := fun h => q ((le32 hv1 hv2).mpr h)
    exact hT M2 (hq2.1 (by omega)) H locs hI hL
theorem lt64 {x y : Int} (hx : lr x) (hy : lr y) : Int64.ofInt x < Int64.ofInt y ↔ x < y := by
  rw [Int64.lt_iff_toInt_lt, lr_to hx, lr_to hy]
theorem le64 {x y : Int} (hx : lr x) (hy : lr y) : Int64.ofInt x ≤ Int64.ofInt y ↔ x ≤ y := by
  rw [Int64.le_iff_toInt_le, lr_to hx, lr_to hy]
theorem jC_lcmp_lt_p {K : jKm} {G : jCt} {d d1 pc p1 p2 p3 tgt : Nat} {a b : jEx} {off : Int} (ha : jE K G d pc p1 21 a) (hb : jE K G d1 p1 p2 21 b) (hd0 : decode (kmC K) p2 = .ok (.lcmp, 1)) (hd : decode (kmC K) (p2 + 1) = .ok (.ifCond .lt off, 3)) (hp : p3 = p2 + 4) (ht : ((p2 + 1 : Nat) : Int) + off = (tgt : Int)) (hd1 : d1 = d + 2) : jC K G d pc tgt p3 (kR (fun x y => x < y) a b) := by
  subst hp; subst hd1
  intro z X hO L M T F ls st hV hc hq hT hF
  refine ha z X hO L M _ ls st hV hc hq (fun x M1 hv1 hq1 => ?_)
  refine hb z X hO L M1 _ ls _ hV (cats_push hc) hq1 (fun y M2 hv2 hq2 => ?_)
  rw [jtk21] at hv1 hv2
  obtain ⟨p, l, e, R, s, m, args, below, meth, c, ce, sl, Qf⟩ := X
  obtain ⟨-, -, hx, hb, -⟩ := jO_facts hO
  intro H locs hI hL
  refine W.lcmp hx hb hd0 ?_
  refine lv_if_lt hx hb hd ht (fun q => ?_) (fun q => ?_)
  · have q := (lt64 hv1 hv2).mp ((lg_cmp_lt _ _).mp q)
    exact hT M2 (hq2.1 (by omega)) H locs hI hL
  · have q : ¬ (x < y) := fun h => q ((lg_cmp_lt _ _).mpr ((lt64 hv1 hv2).mpr h))
    exact hF M2 (hq2.2 (by omega)) H locs hI hL
theorem jC_lcmp_lt_n {K : jKm} {G : jCt} {d d1 pc p1 p2 p3 tgt : Nat} {a b : jEx} {off : Int} (ha : jE K G d pc p1 21 a) (hb : jE K G d1 p1 p2 21 b) (hd0 : decode (kmC K) p2 = .ok (.lcmp, 1)) (hd : decode (kmC K) (p2 + 1) = .ok (.ifCond .lt off, 3)) (hp : p3 = p2 + 4) (ht : ((p2 + 1 : Nat) : Int) + off = (tgt : Int)) (hd1 : d1 = d + 2) : jC K G d pc p3 tgt (kR (fun x y => x ≥ y) a b) := by
  subst hp; subst hd1
  intro z X hO L M T F ls st hV hc hq hT hF
  refine ha z X hO L M _ ls st hV hc hq (fun x M1 hv1 hq1 => ?_)
  refine hb z X hO L M1 _ ls _ hV (cats_push hc) hq1 (fun y M2 hv2 hq2 => ?_)
  rw [jtk21] at hv1 hv2
  obtain ⟨p, l, e, R, s, m, args, below, meth, c, ce, sl, Qf⟩ := X
  obtain ⟨-, -, hx, hb, -⟩ := jO_facts hO
  intro H locs hI hL
  refine W.lcmp hx hb hd0 ?_
  refine lv_if_lt hx hb hd ht (fun q => ?_) (fun q => ?_)
  · have q := (lt64 hv1 hv2).mp ((lg_cmp_lt _ _).mp q)
    exact hF M2 (hq2.2 (by omega)) H locs hI hL
  · have q : ¬ (x < y) := fun h => q ((lg_cmp_lt _ _).mpr ((lt64 hv1 hv2).mpr h))
    exact hT M2 (hq2.1 (by omega)) H locs hI hL
theorem jC_lcmp_gt_p {K : jKm} {G : jCt} {d d1 pc p1 p2 p3 tgt : Nat} {a b : jEx} {off : Int} (ha : jE K G d pc p1 21 a) (hb : jE K G d1 p1 p2 21 b) (hd0 : decode (kmC K) p2 = .ok (.lcmp, 1)) (hd : decode (kmC K) (p2 + 1) = .ok (.ifCond .gt off, 3)) (hp : p3 = p2 + 4) (ht : ((p2 + 1 : Nat) : Int) + off = (tgt : Int)) (hd1 : d1 = d + 2) : jC K G d pc tgt p3 (kR (fun x y => x > y) a b) := by
  subst hp; subst hd1
  intro z X hO L M T F ls st hV hc hq hT hF
  refine ha z X hO L M _ ls st hV hc hq (fun x M1 hv1 hq1 => ?_)
  refine hb z X hO L M1 _ ls _ hV (cats_push hc) hq1 (fun y M2 hv2 hq2 => ?_)
  rw [jtk21] at hv1 hv2
  obtain ⟨p, l, e, R, s, m, args, below, meth, c, ce, sl, Qf⟩ := X
  obtain ⟨-, -, hx, hb, -⟩ := jO_facts hO
  intro H locs hI hL
  refine W.lcmp hx hb hd0 ?_
  refine lv_if_gt hx hb hd ht (fun q => ?_) (fun q => ?_)
  · have q := (lt64 hv2 hv1).mp ((lg_cmp_gt _ _).mp q)
    exact hT M2 (hq2.1 (by omega)) H locs hI hL
  · have q : ¬ (y < x) := fun h => q ((lg_cmp_gt _ _).mpr ((lt64 hv2 hv1).mpr h))
    exact hF M2 (hq2.2 (by omega)) H locs hI hL
theorem jC_lcmp_gt_n {K : jKm} {G : jCt} {d d1 pc p1 p2 p3 tgt : Nat} {a b : jEx} {off : Int} (ha : jE K G d pc p1 21 a) (hb : jE K G d1 p1 p2 21 b) (hd0 : decode (kmC K) p2 = .ok (.lcmp, 1)) (hd : decode (kmC K) (p2 + 1) = .ok (.ifCond .gt off, 3)) (hp : p3 = p2 + 4) (ht : ((p2 + 1 : Nat) : Int) + off = (tgt : Int)) (hd1 : d1 = d + 2) : jC K G d pc p3 tgt (kR (fun x y => x ≤ y) a b) := by
  subst hp; subst hd1
  intro z X hO L M T F ls st hV hc hq hT hF
  refine ha z X hO L M _ ls st hV hc hq (fun x M1 hv1 hq1 => ?_)
  refine hb z X hO L M1 _ ls _ hV (cats_push hc) hq1 (fun y M2 hv2 hq2 => ?_)
  rw [jtk21] at hv1 hv2
  obtain ⟨p, l, e, R, s, m, args, below, meth, c, ce, sl, Qf⟩ := X
  obtain ⟨-, -, hx, hb, -⟩ := jO_facts hO
  intro H locs hI hL
  refine W.lcmp hx hb hd0 ?_
  refine lv_if_gt hx hb hd ht (fun q => ?_) (fun q => ?_)
  · have q := (lt64 hv2 hv1).mp ((lg_cmp_gt _ _).mp q)
    exact hF M2 (hq2.2 (by omega)) H locs hI hL
  · have q : ¬ (y < x) := fun h => q ((lg_cmp_gt _ _).mpr ((lt64 hv2 hv1).mpr h))
    exact hT M2 (hq2.1 (by omega)) H locs hI hL
theorem jC_lcmp_ge_p {K : jKm} {G : jCt} {d d1 pc p1 p2 p3 tgt : Nat} {a b : jEx} {off : Int} (ha : jE K G d pc p1 21 a) (hb : jE K G d1 p1 p2 21 b) (hd0 : decode (kmC K) p2 = .ok (.lcmp, 1)) (hd : decode (kmC K) (p2 + 1) = .ok (.ifCond .ge off, 3)) (hp : p3 = p2 + 4) (ht : ((p2 + 1 : Nat) : Int) + off = (tgt : Int)) (hd1 : d1 = d + 2) : jC K G d pc tgt p3 (kR (fun x y => x ≥ y) a b) := by
  subst hp; subst hd1
  intro z X hO L M T F ls st hV hc hq hT hF
  refine ha z X hO L M _ ls st hV hc hq (fun x M1 hv1 hq1 => ?_)
  refine hb z X hO L M1 _ ls _ hV (cats_push hc) hq1 (fun y M2 hv2 hq2 => ?_)
  rw [jtk21] at hv1 hv2
  obtain ⟨p, l, e, R, s, m, args, below, meth, c, ce, sl, Qf⟩ := X
  obtain ⟨-, -, hx, hb, -⟩ := jO_facts hO
  intro H locs hI hL
  refine W.lcmp hx hb hd0 ?_
  refine lv_if_ge hx hb hd ht (fun q => ?_) (fun q => ?_)
  · have q := (le64 hv2 hv1).mp ((lg_cmp_ge _ _).mp q)
    exact hT M2 (hq2.1 (by omega)) H locs hI hL
  · have q : ¬ (y ≤ x) := fun h => q ((lg_cmp_ge _ _).mpr ((le64 hv2 hv1).mpr h))
    exact hF M2 (hq2.2 (by omega)) H locs hI hL
theorem jC_lcmp_ge_n {K : jKm} {G : jCt} {d d1 pc p1 p2 p3 tgt : Nat} {a b : jEx} {off : Int} (ha : jE K G d pc p1 21 a) (hb : jE K G d1 p1 p2 21 b) (hd0 : decode (kmC K) p2 = .ok (.lcmp, 1)) (hd : decode (kmC K) (p2 + 1) = .ok (.ifCond .ge off, 3)) (hp : p3 = p2 + 4) (ht : ((p2 + 1 : Nat) : Int) + off = (tgt : Int)) (hd1 : d1 = d + 2) : jC K G d pc p3 tgt (kR (fun x y => x < y) a b) := by
  subst hp; subst hd1
  intro z X hO L M T F ls st hV hc hq hT hF
  refine ha z X hO L M _ ls st hV hc hq (fun x M1 hv1 hq1 => ?_)
  refine hb z X hO L M1 _ ls _ hV (cats_push hc) hq1 (fun y M2 hv2 hq2 => ?_)
  rw [jtk21] at hv1 hv2
  obtain ⟨p, l, e, R, s, m, args, below, meth, c, ce, sl, Qf⟩ := X
  obtain ⟨-, -, hx, hb, -⟩ := jO_facts hO
  intro H locs hI hL
  refine W.lcmp hx hb hd0 ?_
  refine lv_if_ge hx hb hd ht (fun q => ?_) (fun q => ?_)
  · have q := (le64 hv2 hv1).mp ((lg_cmp_ge _ _).mp q)
    exact hF M2 (hq2.2 (by omega)) H locs hI hL
  · have q : ¬ (y ≤ x) := fun h => q ((lg_cmp_ge _ _).mpr ((le64 hv2 hv1).mpr h))
    exact hT M2 (hq2.1 (by omega)) H locs hI hL
theorem jC_lcmp_le_p {K : jKm} {G : jCt} {d d1 pc p1 p2 p3 tgt : Nat} {a b : jEx} {off : Int} (ha : jE K G d pc p1 21 a) (hb : jE K G d1 p1 p2 21 b) (hd0 : decode (kmC K) p2 = .ok (.lcmp, 1)) (hd : decode (kmC K) (p2 + 1) = .ok (.ifCond .le off, 3)) (hp : p3 = p2 + 4) (ht : ((p2 + 1 : Nat) : Int) + off = (tgt : Int)) (hd1 : d1 = d + 2) : jC K G d pc tgt p3 (kR (fun x y => x ≤ y) a b) := by
  subst hp; subst hd1
  intro z X hO L M T F ls st hV hc hq hT hF
  refine ha z X hO L M _ ls st hV hc hq (fun x M1 hv1 hq1 => ?_)
  refine hb z X hO L M1 _ ls _ hV (cats_push hc) hq1 (fun y M2 hv2 hq2 => ?_)
  rw [jtk21] at hv1 hv2
  obtain ⟨p, l, e, R, s, m, args, below, meth, c, ce, sl, Qf⟩ := X
  obtain ⟨-, -, hx, hb, -⟩ := jO_facts hO
  intro H locs hI hL
  refine W.lcmp hx hb hd0 ?_
  refine lv_if_le hx hb hd ht (fun q => ?_) (fun q => ?_)
  · have q := (le64 hv1 hv2).mp ((lg_cmp_le _ _).mp q)
    exact hT M2 (hq2.1 (by omega)) H locs hI hL
  · have q : ¬ (x ≤ y) := fun h => q ((lg_cmp_le _ _).mpr ((le64 hv1 hv2).mpr h))
    exact hF M2 (hq2.2 (by omega)) H locs hI hL
theorem jC_lcmp_le_n {K : jKm} {G : jCt} {d d1 pc p1 p2 p3 tgt : Nat} {a b : jEx} {off : Int} (ha : jE K G d pc p1 21 a) (hb : jE K G d1 p1 p2 21 b) (hd0 : decode (kmC K) p2 = .ok (.lcmp, 1)) (hd : decode (kmC K) (p2 + 1) = .ok (.ifCond .le off, 3)) (hp : p3 = p2 + 4) (ht : ((p2 + 1 : Nat) : Int) + off = (tgt : Int)) (hd1 : d1 = d + 2) : jC K G d pc p3 tgt (kR (fun x y => x > y) a b) := by
  subst hp; subst hd1
  intro z X hO L M T F ls st hV hc hq hT hF
  refine ha z X hO L M _ ls st hV hc hq (fun x M1 hv1 hq1 => ?_)
  refine hb z X hO L M1 _ ls _ hV (cats_push hc) hq1 (fun y M2 hv2 hq2 => ?_)
  rw [jtk21] at hv1 hv2
  obtain ⟨p, l, e, R, s, m, args, below, meth, c, ce, sl, Qf⟩ := X
  obtain ⟨-, -, hx, hb, -⟩ := jO_facts hO
  intro H locs hI hL
  refine W.lcmp hx hb hd0 ?_
  refine lv_if_le hx hb hd ht (fun q => ?_) (fun q => ?_)
  · have q := (le64 hv1 hv2).mp ((lg_cmp_le _ _).mp q)
    exact hF M2 (hq2.2 (by omega)) H locs hI hL
  · have q : ¬ (x ≤ y) := fun h => q ((lg_cmp_le _ _).mpr ((le64 hv1 hv2).mpr h))
    exact hT M2 (hq2.1 (by omega)) H locs hI hL
theorem jC_and {K : jKm} {G : jCt} {d pc p1 t f : Nat} {a b : jCn} (ha : jC K G d pc p1 f a) (hb : jC K G d p1 t f b) : jC K G d pc t f (kAnd a b) := by
  intro z X hO L M T F ls st hV hc hq hT hF
  exact ha z X hO L M _ _ ls st hV hc hq (fun M1 h => hb z X hO L M1 _ _ ls st hV hc h hT hF) hF
theorem jC_or {K : jKm} {G : jCt} {d pc p1 t f : Nat} {a b : jCn} (ha : jC K G d pc t p1 a) (hb : jC K G d p1 t f b) : jC K G d pc t f (kOr a b) := by
  intro z X hO L M T F ls st hV hc hq hT hF
  exact ha z X hO L M _ _ ls st hV hc hq hT (fun M1 h => hb z X hO L M1 _ _ ls st hV hc h hT hF)
theorem jC_not {K : jKm} {G : jCt} {d pc t f : Nat} {a : jCn} (ha : jC K G d pc f t a) : jC K G d pc t f (kNot a) := by
  intro z X hO L M T F ls st hV hc hq hT hF
  exact ha z X hO L M _ _ ls st hV hc hq hF hT
theorem jE_goto {K : jKm} {G : jCt} {d pc p t T : Nat} {e : jEx} {off : Int} (h : jE K G d pc p T e) (hd : decode (kmC K) p = .ok (.goto off, 3)) (ht : (p : Int) + off = (t : Int)) : jE K G d pc t T e := by
  intro z X hO L M Q ls st hV hc hq hk
  exact h z X hO L M Q ls st hV hc hq (fun v M1 hv hq1 => jstep hO (fun p l e R s m args below meth c ce sl Qf H locs _ hx hb kk => lv_goto hx hb hd ht kk) (hk v M1 hv hq1))
theorem jE_tern {K : jKm} {G : jCt} {d pc pa pb p T : Nat} {c : jCn} {a b : jEx} (hc : jC K G d pc pa pb c) (ha : jE K G d pa p T a) (hb : jE K G d pb p T b) : jE K G d pc p T (xTern c a b) := by
  intro z X hO L M Q ls st hV hcs hq hk
  exact hc z X hO L M _ _ ls st hV hcs hq (fun M1 h => ha z X hO L M1 Q ls st hV hcs h hk) (fun M1 h => hb z X hO L M1 Q ls st hV hcs h hk)
-- the order of deeds
theorem jS_goto {K : jKm} {G G' : jCt} {pc p t : Nat} {s : jSt} {off : Int} (h : jS K G G' pc p s) (hd : decode (kmC K) p = .ok (.goto off, 3)) (ht : (p : Int) + off = (t : Int)) : jS K G G' pc t s := by
  intro z X hO L M N R ls hV hq hN hR
  exact h z X hO L M N R ls hV hq (fun L1 M1 ls1 hV1 hq1 => jstep hO (fun p l e R s m args below meth c ce sl Qf H locs _ hx hb kk => lv_goto hx hb hd ht kk) (hN L1 M1 ls1 hV1 hq1)) hR
theorem jS_skip {K : jKm} {G : jCt} {pc : Nat} : jS K G G pc pc tSkip := by
  intro z X hO L M N R ls hV hq hN hR
  exact hN L M ls hV hq
theorem jV_sub {K : jKm} {z : jZ} {G G' : jCt} {L : jLo} {ls : Array Slot} (h : jV K z G L ls) (hs : ∀ q ∈ G', q ∈ G) : jV K z G' L ls := ⟨h.1, h.2.1, fun q hq => h.2.2 q (hs q hq)⟩
def ctSub (G' G : jCt) : Bool := G'.all (fun q => G.any (fun r => r.1 == q.1 && r.2 == q.2))
theorem ctSub_ok {G' G : jCt} (h : ctSub G' G = true) : ∀ q ∈ G', q ∈ G := by
  intro q hq
  obtain ⟨r, hr, he⟩ := List.any_eq_true.mp (List.all_eq_true.mp h q hq)
  simp only [Bool.and_eq_true, beq_iff_eq] at he
  rw [show q = r from Prod.ext he.1.symm he.2.symm]; exact hr
/-- fewer known locals ahead, or behind -/
theorem jS_pre {K : jKm} {G G1 G' : jCt} {pc t : Nat} {s : jSt} (h : jS K G1 G' pc t s) (hs : ctSub G1 G = true) : jS K G G' pc t s := by
  intro z X hO L M N R ls hV hq hN hR
  exact h z X hO L M N R ls (jV_sub hV (ctSub_ok hs)) hq hN hR
theorem jS_post {K : jKm} {G G1 G' : jCt} {pc t : Nat} {s : jSt} (h : jS K G G1 pc t s) (hs : ctSub G' G1 = true) : jS K G G' pc t s := by
  intro z X hO L M N R ls hV hq hN hR
  exact h z X hO L M N R ls hV hq (fun L1 M1 ls1 hV1 hq1 => hN L1 M1 ls1 (jV_sub hV1 (ctSub_ok hs)) hq1) hR
theorem jS_seq {K : jKm} {G G1 G2 : jCt} {pc p t : Nat} {a b : jSt} (ha : jS K G G1 pc p a) (hb : jS K G1 G2 p t b) : jS K G G2 pc t (tSeq a b) := by
  intro z X hO L M N R ls hV hq hN hR
  exact ha z X hO L M _ _ ls hV hq (fun L1 M1 ls1 hV1 hq1 => hb z X hO L1 M1 N R ls1 hV1 hq1 hN hR) hR
theorem jS_if {K : jKm} {G G' : jCt} {pc pa pb t : Nat} {c : jCn} {a b : jSt} (hc : jC K G 0 pc pa pb c) (ha : jS K G G' pa t a) (hb : jS K G G' pb t b) : jS K G G' pc t (tIf c a b) := by
  intro z X hO L M N R ls hV hq hN hR
  exact hc z X hO L M _ _ ls [] hV (Nat.le_refl 0) hq (fun M1 h => ha z X hO L M1 N R ls hV h hN hR) (fun M1 h => hb z X hO L M1 N R ls hV h hN hR)
theorem jS_while {K : jKm} {G : jCt} {pc pb t : Nat} {c : jCn} {b : jSt} (hc : jC K G 0 pc pb t c) (hb : jS K G G pb pc b) : jS K G G pc t (tWh c b) := by
  intro z X hO L M N R ls hV hq hN hR
  obtain ⟨n, hn⟩ := hq
  induction n generalizing L M ls with
  | zero => exact absurd hn id
  | succ n ih => exact hc z X hO L M _ _ ls [] hV (Nat.le_refl 0) hn (fun M1 h => hb z X hO L M1 _ _ ls hV h (fun L2 M2 ls2 hV2 h2 => ih L2 M2 ls2 hV2 h2) hR) (fun M1 h => hN L M1 ls hV h)
/-- behind an answer nothing follows: any end will do -/
theorem jS_ret {K : jKm} {G G' : jCt} {pc p1 t : Nat} {e : jEx} (he : jE K G 0 pc p1 (kmR K) e) (hd : decode (kmC K) p1 = .ok (jRi (kmR K), 1)) (h23 : kmR K ≠ 23) : jS K G G' pc t (tRet e) := by
  intro z X hO L M N R ls hV hq hN hR
  refine he z X hO L M _ ls [] hV (Nat.le_refl 0) hq (fun v M1 hv hq1 => ?_)
  have h := hR p1 ls v M1 hd hv hq1
  unfold jRs at h
  rw [if_neg h23] at h
  exact h
theorem jS_retZ {K : jKm} {G G' : jCt} {pc p1 t : Nat} {e : jEx} (he : jE K G 0 pc p1 20 e) (hd : decode (kmC K) p1 = .ok (jRi (kmR K), 1)) (h22 : kmR K = 22) : jS K G G' pc t (tRetZ e) := by
  intro z X hO L M N R ls hV hq hN hR
  refine he z X hO L M _ ls [] hV (Nat.le_refl 0) hq (fun v M1 hv hq1 => ?_)
  have h := hR p1 ls v M1 hd (by rw [h22]; exact hq1.1) hq1.2
  unfold jRs at h
  rw [h22] at h
  exact h
theorem jS_ret0 {K : jKm} {G G' : jCt} {pc t : Nat} (hd : decode (kmC K) pc = .ok (jRi (kmR K), 1)) (h23 : kmR K = 23) : jS K G G' pc t tRet0 := by
  intro z X hO L M N R ls hV hq hN hR
  have h := hR pc ls 0 M hd (by rw [h23]; rfl) hq
  unfold jRs at h
  rw [if_pos h23] at h
  exact h
-- choice by a number
def jT (K : jKm) (G G' : jCt) (p1 t : Nat) : List Int → List jSt → Prop
  | [], [] => True
  | o :: os, s :: ss => (∃ tgt : Nat, (p1 : Int) + o = (tgt : Int) ∧ jS K G G' tgt t s) ∧ jT K G G' p1 t os ss
  | _, _ => False
theorem jT_nil {K : jKm} {G G' : jCt} {p1 t : Nat} : jT K G G' p1 t [] [] := trivial
theorem jT_cons {K : jKm} {G G' : jCt} {p1 t tgt : Nat} {o : Int} {os : List Int} {s : jSt} {ss : List jSt} (h : jS K G G' tgt t s) (ht : (p1 : Int) + o = (tgt : Int)) (hs : jT K G G' p1 t os ss) : jT K G G' p1 t (o :: os) (s :: ss) := ⟨⟨tgt, ht, h⟩, hs⟩
theorem jT_in {K : jKm} {G G' : jCt} {p1 t : Nat} {d : jSt} {L : jLo} {M : jMm} {N : jLo → jMm → Prop} {R : Int → jMm → Prop} : ∀ (os : List Int) (ss : List jSt) (lo v : Int), jT K G G' p1 t os ss → tSwS lo ss d v L M N R →
    (∃ (o : Int) (s : jSt) (tgt : Nat), lo ≤ v ∧ os[(v - lo).toNat]? = some o ∧ (p1 : Int) + o = (tgt : Int) ∧ jS K G G' tgt t s ∧ s L M N R) ∨ ((v < lo ∨ lo + os.length ≤ v) ∧ d L M N R)
  | [], [], lo, v, _, h => Or.inr ⟨by simp; omega, h⟩
  | o :: os, s :: ss, lo, v, hT, h => by
    obtain ⟨⟨tgt, ht, hs⟩, hT2⟩ := hT
    by_cases e : v = lo
    · subst e
      exact Or.inl ⟨o, s, tgt, Int.le_refl _, by simp, ht, hs, h.1 rfl⟩
    · rcases jT_in os ss (lo + 1) v hT2 (h.2 e) with ⟨o2, s2, tgt2, h1, h2, h3⟩ | ⟨h1, h2⟩
      · refine Or.inl ⟨o2, s2, tgt2, by omega, ?_, h3⟩
        rw [show (v - lo).toNat = (v - (lo + 1)).toNat + 1 by omega]
        exact h2
      · refine Or.inr ⟨?_, h2⟩
        simp only [List.length_cons]
        omega
  | [], _ :: _, _, _, hT, _ => absurd hT id
  | _ :: _, [], _, _, hT, _ => absurd hT id
theorem jS_sw {K : jKm} {G G' : jCt} {pc p1 t td len : Nat} {e : jEx} {ss : List jSt} {d : jSt} {lo hi dflt : Int} {offs : Array Int} (he : jE K G 0 pc p1 20 e) (hd : decode (kmC K) p1 = .ok (.tableswitch dflt lo hi offs, len)) (hT : jT K G G' p1 t offs.toList ss) (hhi : hi + 1 = lo + offs.toList.length) (htd : (p1 : Int) + dflt = (td : Int)) (hdf : jS K G G' td t d) : jS K G G' pc t (tSw lo e ss d) := by
  intro z X hO L M N R ls hV hq hN hR
  refine he z X hO L M _ ls [] hV (Nat.le_refl 0) hq (fun v M1 hv hq1 => ?_)
  have hv := jtk20.mp hv
  rcases jT_in offs.toList ss lo v hT hq1 with ⟨o, s, tgt, h1, h2, h3, h4, h5⟩ | ⟨h1, h2⟩
  · have h2' : offs[(v - lo).toNat]? = some o := by rw [← Array.getElem?_toList]; exact h2
    have hlt : (v - lo).toNat < offs.toList.length := (List.getElem?_eq_some_iff.mp h2).1
    refine jstep hO (fun p l e R s m args below meth c ce sl Qf H locs _ hx hb kk => lv_tableIn hx hb hd (by rw [ir_to hv]; omega) (by rw [ir_to hv]; omega) (by rw [ir_to hv]; exact h2') h3 kk) (h4 z X hO L M1 N R ls hV h5 hN hR)
  · refine jstep hO (fun p l e R s m args below meth c ce sl Qf H locs _ hx hb kk => lv_tableOut hx hb hd (by rw [ir_to hv]; omega) htd kk) (hdf z X hO L M1 N R ls hV h2 hN hR)
