section ZBR
variable {E : ZE} {d : Nat} {μ : ZMeth} {pc : Nat} {L : List (Option ZV)} {st : List ZV} {M : ZMem} {r : Option ZV} {M1 : ZMem}
theorem x_icmp_eq {x y off : Int} {tgt : Nat} (hdg : decode μ.2.1 pc = .ok (.if_icmp .eq off, 3)) (ht : (pc : Int) + off = (tgt : Int)) (kt : x = y → Xr E d μ tgt L st M r M1) (kf : ¬ (x = y) → Xr E d μ (pc + 3) L st M r M1) : Xr E d μ pc L (zi y :: zi x :: st) M r M1 := by
  by_cases h : x = y
  · exact (kt h).op (fun _ h _ => gd_tl (gd_tl h)) (fun hx hb _ _ hs _ _ w => by
      have hry := gd_hi hs.2.2.2.2.1
      have hrx := gd_hi (gd_tl hs.2.2.2.2.1)
      exact lv_icmp_eq hx hb hdg ht (fun _ => w) (fun q => absurd ((zI_eq hrx hry).mpr h) q))
  · exact (kf h).op (fun _ h _ => gd_tl (gd_tl h)) (fun hx hb _ _ hs _ _ w => by
      have hry := gd_hi hs.2.2.2.2.1
      have hrx := gd_hi (gd_tl hs.2.2.2.2.1)
      exact lv_icmp_eq hx hb hdg ht (fun q => absurd ((zI_eq hrx hry).mp q) h) (fun _ => w))
theorem x_icmp_ne {x y off : Int} {tgt : Nat} (hdg : decode μ.2.1 pc = .ok (.if_icmp .ne off, 3)) (ht : (pc : Int) + off = (tgt : Int)) (kt : x ≠ y → Xr E d μ tgt L st M r M1) (kf : ¬ (x ≠ y) → Xr E d μ (pc + 3) L st M r M1) : Xr E d μ pc L (zi y :: zi x :: st) M r M1 := by
  by_cases h : x ≠ y
  · exact (kt h).op (fun _ h _ => gd_tl (gd_tl h)) (fun hx hb _ _ hs _ _ w => by
      have hry := gd_hi hs.2.2.2.2.1
      have hrx := gd_hi (gd_tl hs.2.2.2.2.1)
      exact lv_icmp_ne hx hb hdg ht (fun _ => w) (fun q => absurd ((zI_eq hrx hry).mp q) h))
  · exact (kf h).op (fun _ h _ => gd_tl (gd_tl h)) (fun hx hb _ _ hs _ _ w => by
      have hry := gd_hi hs.2.2.2.2.1
      have hrx := gd_hi (gd_tl hs.2.2.2.2.1)
      exact lv_icmp_ne hx hb hdg ht (fun q => absurd (fun e => q ((zI_eq hrx hry).mpr e)) h) (fun _ => w))
theorem x_icmp_lt {x y off : Int} {tgt : Nat} (hdg : decode μ.2.1 pc = .ok (.if_icmp .lt off, 3)) (ht : (pc : Int) + off = (tgt : Int)) (kt : x < y → Xr E d μ tgt L st M r M1) (kf : ¬ (x < y) → Xr E d μ (pc + 3) L st M r M1) : Xr E d μ pc L (zi y :: zi x :: st) M r M1 := by
  by_cases h : x < y
  · exact (kt h).op (fun _ h _ => gd_tl (gd_tl h)) (fun hx hb _ _ hs _ _ w => by
      have hry := gd_hi hs.2.2.2.2.1
      have hrx := gd_hi (gd_tl hs.2.2.2.2.1)
      exact lv_icmp_lt hx hb hdg ht (fun _ => w) (fun q => absurd ((zI_lt hrx hry).mpr h) q))
  · exact (kf h).op (fun _ h _ => gd_tl (gd_tl h)) (fun hx hb _ _ hs _ _ w => by
      have hry := gd_hi hs.2.2.2.2.1
      have hrx := gd_hi (gd_tl hs.2.2.2.2.1)
      exact lv_icmp_lt hx hb hdg ht (fun q => absurd ((zI_lt hrx hry).mp q) h) (fun _ => w))
theorem x_icmp_ge {x y off : Int} {tgt : Nat} (hdg : decode μ.2.1 pc = .ok (.if_icmp .ge off, 3)) (ht : (pc : Int) + off = (tgt : Int)) (kt : y ≤ x → Xr E d μ tgt L st M r M1) (kf : ¬ (y ≤ x) → Xr E d μ (pc + 3) L st M r M1) : Xr E d μ pc L (zi y :: zi x :: st) M r M1 := by
  by_cases h : y ≤ x
  · exact (kt h).op (fun _ h _ => gd_tl (gd_tl h)) (fun hx hb _ _ hs _ _ w => by
      have hry := gd_hi hs.2.2.2.2.1
      have hrx := gd_hi (gd_tl hs.2.2.2.2.1)
      exact lv_icmp_ge hx hb hdg ht (fun _ => w) (fun q => absurd ((zI_le hry hrx).mpr h) q))
  · exact (kf h).op (fun _ h _ => gd_tl (gd_tl h)) (fun hx hb _ _ hs _ _ w => by
      have hry := gd_hi hs.2.2.2.2.1
      have hrx := gd_hi (gd_tl hs.2.2.2.2.1)
      exact lv_icmp_ge hx hb hdg ht (fun q => absurd ((zI_le hry hrx).mp q) h) (fun _ => w))
theorem x_icmp_gt {x y off : Int} {tgt : Nat} (hdg : decode μ.2.1 pc = .ok (.if_icmp .gt off, 3)) (ht : (pc : Int) + off = (tgt : Int)) (kt : y < x → Xr E d μ tgt L st M r M1) (kf : ¬ (y < x) → Xr E d μ (pc + 3) L st M r M1) : Xr E d μ pc L (zi y :: zi x :: st) M r M1 := by
  by_cases h : y < x
  · exact (kt h).op (fun _ h _ => gd_tl (gd_tl h)) (fun hx hb _ _ hs _ _ w => by
      have hry := gd_hi hs.2.2.2.2.1
      have hrx := gd_hi (gd_tl hs.2.2.2.2.1)
      exact lv_icmp_gt hx hb hdg ht (fun _ => w) (fun q => absurd ((zI_lt hry hrx).mpr h) q))
  · exact (kf h).op (fun _ h _ => gd_tl (gd_tl h)) (fun hx hb _ _ hs _ _ w => by
      have hry := gd_hi hs.2.2.2.2.1
      have hrx := gd_hi (gd_tl hs.2.2.2.2.1)
      exact lv_icmp_gt hx hb hdg ht (fun q => absurd ((zI_lt hry hrx).mp q) h) (fun _ => w))
theorem x_icmp_le {x y off : Int} {tgt : Nat} (hdg : decode μ.2.1 pc = .ok (.if_icmp .le off, 3)) (ht : (pc : Int) + off = (tgt : Int)) (kt : x ≤ y → Xr E d μ tgt L st M r M1) (kf : ¬ (x ≤ y) → Xr E d μ (pc + 3) L st M r M1) : Xr E d μ pc L (zi y :: zi x :: st) M r M1 := by
  by_cases h : x ≤ y
  · exact (kt h).op (fun _ h _ => gd_tl (gd_tl h)) (fun hx hb _ _ hs _ _ w => by
      have hry := gd_hi hs.2.2.2.2.1
      have hrx := gd_hi (gd_tl hs.2.2.2.2.1)
      exact lv_icmp_le hx hb hdg ht (fun _ => w) (fun q => absurd ((zI_le hrx hry).mpr h) q))
  · exact (kf h).op (fun _ h _ => gd_tl (gd_tl h)) (fun hx hb _ _ hs _ _ w => by
      have hry := gd_hi hs.2.2.2.2.1
      have hrx := gd_hi (gd_tl hs.2.2.2.2.1)
      exact lv_icmp_le hx hb hdg ht (fun q => absurd ((zI_le hrx hry).mp q) h) (fun _ => w))
theorem x_if_eq {x off : Int} {tgt : Nat} (hdg : decode μ.2.1 pc = .ok (.ifCond .eq off, 3)) (ht : (pc : Int) + off = (tgt : Int)) (kt : x = 0 → Xr E d μ tgt L st M r M1) (kf : ¬ (x = 0) → Xr E d μ (pc + 3) L st M r M1) : Xr E d μ pc L (zi x :: st) M r M1 := by
  by_cases h : x = 0
  · exact (kt h).op (fun _ h _ => gd_tl h) (fun hx hb _ _ hs _ _ w => by
      have hrx := gd_hi hs.2.2.2.2.1
      exact lv_if_eq hx hb hdg ht (fun _ => w) (fun q => absurd ((zI_eq hrx inR_0).mpr h) q))
  · exact (kf h).op (fun _ h _ => gd_tl h) (fun hx hb _ _ hs _ _ w => by
      have hrx := gd_hi hs.2.2.2.2.1
      exact lv_if_eq hx hb hdg ht (fun q => absurd ((zI_eq hrx inR_0).mp q) h) (fun _ => w))
theorem x_if_ne {x off : Int} {tgt : Nat} (hdg : decode μ.2.1 pc = .ok (.ifCond .ne off, 3)) (ht : (pc : Int) + off = (tgt : Int)) (kt : x ≠ 0 → Xr E d μ tgt L st M r M1) (kf : ¬ (x ≠ 0) → Xr E d μ (pc + 3) L st M r M1) : Xr E d μ pc L (zi x :: st) M r M1 := by
  by_cases h : x ≠ 0
  · exact (kt h).op (fun _ h _ => gd_tl h) (fun hx hb _ _ hs _ _ w => by
      have hrx := gd_hi hs.2.2.2.2.1
      exact lv_if_ne hx hb hdg ht (fun _ => w) (fun q => absurd ((zI_eq hrx inR_0).mp q) h))
  · exact (kf h).op (fun _ h _ => gd_tl h) (fun hx hb _ _ hs _ _ w => by
      have hrx := gd_hi hs.2.2.2.2.1
      exact lv_if_ne hx hb hdg ht (fun q => absurd (fun e => q ((zI_eq hrx inR_0).mpr e)) h) (fun _ => w))
theorem x_if_lt {x off : Int} {tgt : Nat} (hdg : decode μ.2.1 pc = .ok (.ifCond .lt off, 3)) (ht : (pc : Int) + off = (tgt : Int)) (kt : x < 0 → Xr E d μ tgt L st M r M1) (kf : ¬ (x < 0) → Xr E d μ (pc + 3) L st M r M1) : Xr E d μ pc L (zi x :: st) M r M1 := by
  by_cases h : x < 0
  · exact (kt h).op (fun _ h _ => gd_tl h) (fun hx hb _ _ hs _ _ w => by
      have hrx := gd_hi hs.2.2.2.2.1
      exact lv_if_lt hx hb hdg ht (fun _ => w) (fun q => absurd ((zI_lt hrx inR_0).mpr h) q))
  · exact (kf h).op (fun _ h _ => gd_tl h) (fun hx hb _ _ hs _ _ w => by
      have hrx := gd_hi hs.2.2.2.2.1
      exact lv_if_lt hx hb hdg ht (fun q => absurd ((zI_lt hrx inR_0).mp q) h) (fun _ => w))
theorem x_if_ge {x off : Int} {tgt : Nat} (hdg : decode μ.2.1 pc = .ok (.ifCond .ge off, 3)) (ht : (pc : Int) + off = (tgt : Int)) (kt : 0 ≤ x → Xr E d μ tgt L st M r M1) (kf : ¬ (0 ≤ x) → Xr E d μ (pc + 3) L st M r M1) : Xr E d μ pc L (zi x :: st) M r M1 := by
  by_cases h : 0 ≤ x
  · exact (kt h).op (fun _ h _ => gd_tl h) (fun hx hb _ _ hs _ _ w => by
      have hrx := gd_hi hs.2.2.2.2.1
      exact lv_if_ge hx hb hdg ht (fun _ => w) (fun q => absurd ((zI_le inR_0 hrx).mpr h) q))
  · exact (kf h).op (fun _ h _ => gd_tl h) (fun hx hb _ _ hs _ _ w => by
      have hrx := gd_hi hs.2.2.2.2.1
      exact lv_if_ge hx hb hdg ht (fun q => absurd ((zI_le inR_0 hrx).mp q) h) (fun _ => w))
theorem x_if_gt {x off : Int} {tgt : Nat} (hdg : decode μ.2.1 pc = .ok (.ifCond .gt off, 3)) (ht : (pc : Int) + off = (tgt : Int)) (kt : 0 < x → Xr E d μ tgt L st M r M1) (kf : ¬ (0 < x) → Xr E d μ (pc + 3) L st M r M1) : Xr E d μ pc L (zi x :: st) M r M1 := by
  by_cases h : 0 < x
  · exact (kt h).op (fun _ h _ => gd_tl h) (fun hx hb _ _ hs _ _ w => by
      have hrx := gd_hi hs.2.2.2.2.1
      exact lv_if_gt hx hb hdg ht (fun _ => w) (fun q => absurd ((zI_lt inR_0 hrx).mpr h) q))
  · exact (kf h).op (fun _ h _ => gd_tl h) (fun hx hb _ _ hs _ _ w => by
      have hrx := gd_hi hs.2.2.2.2.1
      exact lv_if_gt hx hb hdg ht (fun q => absurd ((zI_lt inR_0 hrx).mp q) h) (fun _ => w))
theorem x_if_le {x off : Int} {tgt : Nat} (hdg : decode μ.2.1 pc = .ok (.ifCond .le off, 3)) (ht : (pc : Int) + off = (tgt : Int)) (kt : x ≤ 0 → Xr E d μ tgt L st M r M1) (kf : ¬ (x ≤ 0) → Xr E d μ (pc + 3) L st M r M1) : Xr E d μ pc L (zi x :: st) M r M1 := by
  by_cases h : x ≤ 0
  · exact (kt h).op (fun _ h _ => gd_tl h) (fun hx hb _ _ hs _ _ w => by
      have hrx := gd_hi hs.2.2.2.2.1
      exact lv_if_le hx hb hdg ht (fun _ => w) (fun q => absurd ((zI_le hrx inR_0).mpr h) q))
  · exact (kf h).op (fun _ h _ => gd_tl h) (fun hx hb _ _ hs _ _ w => by
      have hrx := gd_hi hs.2.2.2.2.1
      exact lv_if_le hx hb hdg ht (fun q => absurd ((zI_le hrx inR_0).mp q) h) (fun _ => w))
end ZBR
