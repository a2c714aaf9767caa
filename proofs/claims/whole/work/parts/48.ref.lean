/-! THE REFERENCE, where it lies: the thing 616, its rows 617 to 670 -/
def rfT (i : Nat) : Nat × Nat × Nat := match i with
  | 0 => (1203, 22, 300)
  | 1 => (1207, 22, 4100)
  | 2 => (1208, 22, 4100)
  | 3 => (1209, 22, 4100)
  | 4 => (1210, 22, 4100)
  | 5 => (1211, 22, 8)
  | 6 => (1212, 22, 8)
  | 7 => (1214, 22, 11100)
  | 8 => (1215, 22, 11100)
  | 9 => (1216, 23, 11100)
  | 10 => (1217, 22, 11100)
  | 11 => (1218, 23, 11100)
  | 12 => (1219, 22, 11100)
  | 13 => (1220, 22, 11100)
  | 14 => (1221, 22, 11100)
  | 15 => (1222, 22, 10)
  | 16 => (1225, 22, 60000)
  | 17 => (1226, 22, 60000)
  | 18 => (1227, 22, 60000)
  | 19 => (1228, 22, 60000)
  | 20 => (1229, 22, 60000)
  | 21 => (1230, 22, 163840)
  | 22 => (1231, 22, 20)
  | 23 => (1232, 22, 20)
  | 24 => (1233, 22, 20)
  | 25 => (1234, 23, 20)
  | 26 => (1235, 22, 20)
  | 27 => (1236, 22, 4)
  | 28 => (1237, 22, 4)
  | 29 => (1238, 22, 4)
  | 30 => (1239, 22, 4)
  | 31 => (1240, 22, 3840)
  | 32 => (1241, 22, 64)
  | 33 => (1242, 22, 64)
  | 34 => (1243, 22, 64)
  | 35 => (1244, 22, 64)
  | 36 => (1245, 22, 512)
  | 37 => (1246, 22, 64)
  | 38 => (1247, 22, 64)
  | 39 => (1248, 22, 64)
  | 40 => (1249, 22, 64)
  | 41 => (1250, 22, 64)
  | 42 => (1251, 22, 64)
  | 43 => (1252, 22, 64)
  | 44 => (1253, 22, 64)
  | 45 => (1254, 22, 64)
  | 46 => (1255, 22, 64)
  | 47 => (1256, 22, 64)
  | 48 => (1257, 22, 4)
  | 49 => (1258, 22, 4096)
  | 50 => (1259, 22, 4096)
  | 51 => (1260, 22, 4096)
  | 52 => (1261, 22, 1024)
  | 53 => (1262, 23, 8192)
  | _ => (0, 0, 0)
def RF (h : Hp) : Prop := 672 ≤ zn h ∧ zT h 616 = 12 ∧ ∀ i, i < 54 → zR h (rfT i).1 616 = 617 + i ∧ zT h (617 + i) = (rfT i).2.1 ∧ zL h (617 + i) = (rfT i).2.2
theorem RF_o {h : Hp} (H : RF h) : isO h 616 12 := ⟨by decide, Nat.lt_of_lt_of_le (by decide) H.1, H.2.1⟩
theorem RF_1203 {h : Hp} (H : RF h) : zR h 1203 616 = 617 := (H.2.2 0 (by decide)).1
theorem RO_617 {h : Hp} (H : RF h) : isO h 617 22 := ⟨by decide, Nat.lt_of_lt_of_le (by decide) H.1, (H.2.2 0 (by decide)).2.1⟩
theorem RL_617 {h : Hp} (H : RF h) : zL h 617 = 300 := (H.2.2 0 (by decide)).2.2
theorem RF_1207 {h : Hp} (H : RF h) : zR h 1207 616 = 618 := (H.2.2 1 (by decide)).1
theorem RO_618 {h : Hp} (H : RF h) : isO h 618 22 := ⟨by decide, Nat.lt_of_lt_of_le (by decide) H.1, (H.2.2 1 (by decide)).2.1⟩
theorem RL_618 {h : Hp} (H : RF h) : zL h 618 = 4100 := (H.2.2 1 (by decide)).2.2
theorem RF_1208 {h : Hp} (H : RF h) : zR h 1208 616 = 619 := (H.2.2 2 (by decide)).1
theorem RO_619 {h : Hp} (H : RF h) : isO h 619 22 := ⟨by decide, Nat.lt_of_lt_of_le (by decide) H.1, (H.2.2 2 (by decide)).2.1⟩
theorem RL_619 {h : Hp} (H : RF h) : zL h 619 = 4100 := (H.2.2 2 (by decide)).2.2
theorem RF_1209 {h : Hp} (H : RF h) : zR h 1209 616 = 620 := (H.2.2 3 (by decide)).1
theorem RO_620 {h : Hp} (H : RF h) : isO h 620 22 := ⟨by decide, Nat.lt_of_lt_of_le (by decide) H.1, (H.2.2 3 (by decide)).2.1⟩
theorem RL_620 {h : Hp} (H : RF h) : zL h 620 = 4100 := (H.2.2 3 (by decide)).2.2
theorem RF_1210 {h : Hp} (H : RF h) : zR h 1210 616 = 621 := (H.2.2 4 (by decide)).1
theorem RO_621 {h : Hp} (H : RF h) : isO h 621 22 := ⟨by decide, Nat.lt_of_lt_of_le (by decide) H.1, (H.2.2 4 (by decide)).2.1⟩
theorem RL_621 {h : Hp} (H : RF h) : zL h 621 = 4100 := (H.2.2 4 (by decide)).2.2
theorem RF_1211 {h : Hp} (H : RF h) : zR h 1211 616 = 622 := (H.2.2 5 (by decide)).1
theorem RO_622 {h : Hp} (H : RF h) : isO h 622 22 := ⟨by decide, Nat.lt_of_lt_of_le (by decide) H.1, (H.2.2 5 (by decide)).2.1⟩
theorem RL_622 {h : Hp} (H : RF h) : zL h 622 = 8 := (H.2.2 5 (by decide)).2.2
theorem RF_1212 {h : Hp} (H : RF h) : zR h 1212 616 = 623 := (H.2.2 6 (by decide)).1
theorem RO_623 {h : Hp} (H : RF h) : isO h 623 22 := ⟨by decide, Nat.lt_of_lt_of_le (by decide) H.1, (H.2.2 6 (by decide)).2.1⟩
theorem RL_623 {h : Hp} (H : RF h) : zL h 623 = 8 := (H.2.2 6 (by decide)).2.2
theorem RF_1214 {h : Hp} (H : RF h) : zR h 1214 616 = 624 := (H.2.2 7 (by decide)).1
theorem RO_624 {h : Hp} (H : RF h) : isO h 624 22 := ⟨by decide, Nat.lt_of_lt_of_le (by decide) H.1, (H.2.2 7 (by decide)).2.1⟩
theorem RL_624 {h : Hp} (H : RF h) : zL h 624 = 11100 := (H.2.2 7 (by decide)).2.2
theorem RF_1215 {h : Hp} (H : RF h) : zR h 1215 616 = 625 := (H.2.2 8 (by decide)).1
theorem RO_625 {h : Hp} (H : RF h) : isO h 625 22 := ⟨by decide, Nat.lt_of_lt_of_le (by decide) H.1, (H.2.2 8 (by decide)).2.1⟩
theorem RL_625 {h : Hp} (H : RF h) : zL h 625 = 11100 := (H.2.2 8 (by decide)).2.2
theorem RF_1216 {h : Hp} (H : RF h) : zR h 1216 616 = 626 := (H.2.2 9 (by decide)).1
theorem RO_626 {h : Hp} (H : RF h) : isO h 626 23 := ⟨by decide, Nat.lt_of_lt_of_le (by decide) H.1, (H.2.2 9 (by decide)).2.1⟩
theorem RL_626 {h : Hp} (H : RF h) : zL h 626 = 11100 := (H.2.2 9 (by decide)).2.2
theorem RF_1217 {h : Hp} (H : RF h) : zR h 1217 616 = 627 := (H.2.2 10 (by decide)).1
theorem RO_627 {h : Hp} (H : RF h) : isO h 627 22 := ⟨by decide, Nat.lt_of_lt_of_le (by decide) H.1, (H.2.2 10 (by decide)).2.1⟩
theorem RL_627 {h : Hp} (H : RF h) : zL h 627 = 11100 := (H.2.2 10 (by decide)).2.2
theorem RF_1218 {h : Hp} (H : RF h) : zR h 1218 616 = 628 := (H.2.2 11 (by decide)).1
theorem RO_628 {h : Hp} (H : RF h) : isO h 628 23 := ⟨by decide, Nat.lt_of_lt_of_le (by decide) H.1, (H.2.2 11 (by decide)).2.1⟩
theorem RL_628 {h : Hp} (H : RF h) : zL h 628 = 11100 := (H.2.2 11 (by decide)).2.2
theorem RF_1219 {h : Hp} (H : RF h) : zR h 1219 616 = 629 := (H.2.2 12 (by decide)).1
theorem RO_629 {h : Hp} (H : RF h) : isO h 629 22 := ⟨by decide, Nat.lt_of_lt_of_le (by decide) H.1, (H.2.2 12 (by decide)).2.1⟩
theorem RL_629 {h : Hp} (H : RF h) : zL h 629 = 11100 := (H.2.2 12 (by decide)).2.2
theorem RF_1220 {h : Hp} (H : RF h) : zR h 1220 616 = 630 := (H.2.2 13 (by decide)).1
theorem RO_630 {h : Hp} (H : RF h) : isO h 630 22 := ⟨by decide, Nat.lt_of_lt_of_le (by decide) H.1, (H.2.2 13 (by decide)).2.1⟩
theorem RL_630 {h : Hp} (H : RF h) : zL h 630 = 11100 := (H.2.2 13 (by decide)).2.2
theorem RF_1221 {h : Hp} (H : RF h) : zR h 1221 616 = 631 := (H.2.2 14 (by decide)).1
theorem RO_631 {h : Hp} (H : RF h) : isO h 631 22 := ⟨by decide, Nat.lt_of_lt_of_le (by decide) H.1, (H.2.2 14 (by decide)).2.1⟩
theorem RL_631 {h : Hp} (H : RF h) : zL h 631 = 11100 := (H.2.2 14 (by decide)).2.2
theorem RF_1222 {h : Hp} (H : RF h) : zR h 1222 616 = 632 := (H.2.2 15 (by decide)).1
theorem RO_632 {h : Hp} (H : RF h) : isO h 632 22 := ⟨by decide, Nat.lt_of_lt_of_le (by decide) H.1, (H.2.2 15 (by decide)).2.1⟩
theorem RL_632 {h : Hp} (H : RF h) : zL h 632 = 10 := (H.2.2 15 (by decide)).2.2
theorem RF_1225 {h : Hp} (H : RF h) : zR h 1225 616 = 633 := (H.2.2 16 (by decide)).1
theorem RO_633 {h : Hp} (H : RF h) : isO h 633 22 := ⟨by decide, Nat.lt_of_lt_of_le (by decide) H.1, (H.2.2 16 (by decide)).2.1⟩
theorem RL_633 {h : Hp} (H : RF h) : zL h 633 = 60000 := (H.2.2 16 (by decide)).2.2
theorem RF_1226 {h : Hp} (H : RF h) : zR h 1226 616 = 634 := (H.2.2 17 (by decide)).1
theorem RO_634 {h : Hp} (H : RF h) : isO h 634 22 := ⟨by decide, Nat.lt_of_lt_of_le (by decide) H.1, (H.2.2 17 (by decide)).2.1⟩
theorem RL_634 {h : Hp} (H : RF h) : zL h 634 = 60000 := (H.2.2 17 (by decide)).2.2
theorem RF_1227 {h : Hp} (H : RF h) : zR h 1227 616 = 635 := (H.2.2 18 (by decide)).1
theorem RO_635 {h : Hp} (H : RF h) : isO h 635 22 := ⟨by decide, Nat.lt_of_lt_of_le (by decide) H.1, (H.2.2 18 (by decide)).2.1⟩
theorem RL_635 {h : Hp} (H : RF h) : zL h 635 = 60000 := (H.2.2 18 (by decide)).2.2
theorem RF_1228 {h : Hp} (H : RF h) : zR h 1228 616 = 636 := (H.2.2 19 (by decide)).1
theorem RO_636 {h : Hp} (H : RF h) : isO h 636 22 := ⟨by decide, Nat.lt_of_lt_of_le (by decide) H.1, (H.2.2 19 (by decide)).2.1⟩
theorem RL_636 {h : Hp} (H : RF h) : zL h 636 = 60000 := (H.2.2 19 (by decide)).2.2
theorem RF_1229 {h : Hp} (H : RF h) : zR h 1229 616 = 637 := (H.2.2 20 (by decide)).1
theorem RO_637 {h : Hp} (H : RF h) : isO h 637 22 := ⟨by decide, Nat.lt_of_lt_of_le (by decide) H.1, (H.2.2 20 (by decide)).2.1⟩
theorem RL_637 {h : Hp} (H : RF h) : zL h 637 = 60000 := (H.2.2 20 (by decide)).2.2
theorem RF_1230 {h : Hp} (H : RF h) : zR h 1230 616 = 638 := (H.2.2 21 (by decide)).1
theorem RO_638 {h : Hp} (H : RF h) : isO h 638 22 := ⟨by decide, Nat.lt_of_lt_of_le (by decide) H.1, (H.2.2 21 (by decide)).2.1⟩
theorem RL_638 {h : Hp} (H : RF h) : zL h 638 = 163840 := (H.2.2 21 (by decide)).2.2
theorem RF_1231 {h : Hp} (H : RF h) : zR h 1231 616 = 639 := (H.2.2 22 (by decide)).1
theorem RO_639 {h : Hp} (H : RF h) : isO h 639 22 := ⟨by decide, Nat.lt_of_lt_of_le (by decide) H.1, (H.2.2 22 (by decide)).2.1⟩
theorem RL_639 {h : Hp} (H : RF h) : zL h 639 = 20 := (H.2.2 22 (by decide)).2.2
theorem RF_1232 {h : Hp} (H : RF h) : zR h 1232 616 = 640 := (H.2.2 23 (by decide)).1
theorem RO_640 {h : Hp} (H : RF h) : isO h 640 22 := ⟨by decide, Nat.lt_of_lt_of_le (by decide) H.1, (H.2.2 23 (by decide)).2.1⟩
theorem RL_640 {h : Hp} (H : RF h) : zL h 640 = 20 := (H.2.2 23 (by decide)).2.2
theorem RF_1233 {h : Hp} (H : RF h) : zR h 1233 616 = 641 := (H.2.2 24 (by decide)).1
theorem RO_641 {h : Hp} (H : RF h) : isO h 641 22 := ⟨by decide, Nat.lt_of_lt_of_le (by decide) H.1, (H.2.2 24 (by decide)).2.1⟩
theorem RL_641 {h : Hp} (H : RF h) : zL h 641 = 20 := (H.2.2 24 (by decide)).2.2
theorem RF_1234 {h : Hp} (H : RF h) : zR h 1234 616 = 642 := (H.2.2 25 (by decide)).1
theorem RO_642 {h : Hp} (H : RF h) : isO h 642 23 := ⟨by decide, Nat.lt_of_lt_of_le (by decide) H.1, (H.2.2 25 (by decide)).2.1⟩
theorem RL_642 {h : Hp} (H : RF h) : zL h 642 = 20 := (H.2.2 25 (by decide)).2.2
theorem RF_1235 {h : Hp} (H : RF h) : zR h 1235 616 = 643 := (H.2.2 26 (by decide)).1
theorem RO_643 {h : Hp} (H : RF h) : isO h 643 22 := ⟨by decide, Nat.lt_of_lt_of_le (by decide) H.1, (H.2.2 26 (by decide)).2.1⟩
theorem RL_643 {h : Hp} (H : RF h) : zL h 643 = 20 := (H.2.2 26 (by decide)).2.2
theorem RF_1236 {h : Hp} (H : RF h) : zR h 1236 616 = 644 := (H.2.2 27 (by decide)).1
theorem RO_644 {h : Hp} (H : RF h) : isO h 644 22 := ⟨by decide, Nat.lt_of_lt_of_le (by decide) H.1, (H.2.2 27 (by decide)).2.1⟩
theorem RL_644 {h : Hp} (H : RF h) : zL h 644 = 4 := (H.2.2 27 (by decide)).2.2
theorem RF_1237 {h : Hp} (H : RF h) : zR h 1237 616 = 645 := (H.2.2 28 (by decide)).1
theorem RO_645 {h : Hp} (H : RF h) : isO h 645 22 := ⟨by decide, Nat.lt_of_lt_of_le (by decide) H.1, (H.2.2 28 (by decide)).2.1⟩
theorem RL_645 {h : Hp} (H : RF h) : zL h 645 = 4 := (H.2.2 28 (by decide)).2.2
theorem RF_1238 {h : Hp} (H : RF h) : zR h 1238 616 = 646 := (H.2.2 29 (by decide)).1
theorem RO_646 {h : Hp} (H : RF h) : isO h 646 22 := ⟨by decide, Nat.lt_of_lt_of_le (by decide) H.1, (H.2.2 29 (by decide)).2.1⟩
theorem RL_646 {h : Hp} (H : RF h) : zL h 646 = 4 := (H.2.2 29 (by decide)).2.2
theorem RF_1239 {h : Hp} (H : RF h) : zR h 1239 616 = 647 := (H.2.2 30 (by decide)).1
theorem RO_647 {h : Hp} (H : RF h) : isO h 647 22 := ⟨by decide, Nat.lt_of_lt_of_le (by decide) H.1, (H.2.2 30 (by decide)).2.1⟩
theorem RL_647 {h : Hp} (H : RF h) : zL h 647 = 4 := (H.2.2 30 (by decide)).2.2
theorem RF_1240 {h : Hp} (H : RF h) : zR h 1240 616 = 648 := (H.2.2 31 (by decide)).1
theorem RO_648 {h : Hp} (H : RF h) : isO h 648 22 := ⟨by decide, Nat.lt_of_lt_of_le (by decide) H.1, (H.2.2 31 (by decide)).2.1⟩
theorem RL_648 {h : Hp} (H : RF h) : zL h 648 = 3840 := (H.2.2 31 (by decide)).2.2
theorem RF_1241 {h : Hp} (H : RF h) : zR h 1241 616 = 649 := (H.2.2 32 (by decide)).1
theorem RO_649 {h : Hp} (H : RF h) : isO h 649 22 := ⟨by decide, Nat.lt_of_lt_of_le (by decide) H.1, (H.2.2 32 (by decide)).2.1⟩
theorem RL_649 {h : Hp} (H : RF h) : zL h 649 = 64 := (H.2.2 32 (by decide)).2.2
theorem RF_1242 {h : Hp} (H : RF h) : zR h 1242 616 = 650 := (H.2.2 33 (by decide)).1
theorem RO_650 {h : Hp} (H : RF h) : isO h 650 22 := ⟨by decide, Nat.lt_of_lt_of_le (by decide) H.1, (H.2.2 33 (by decide)).2.1⟩
theorem RL_650 {h : Hp} (H : RF h) : zL h 650 = 64 := (H.2.2 33 (by decide)).2.2
theorem RF_1243 {h : Hp} (H : RF h) : zR h 1243 616 = 651 := (H.2.2 34 (by decide)).1
theorem RO_651 {h : Hp} (H : RF h) : isO h 651 22 := ⟨by decide, Nat.lt_of_lt_of_le (by decide) H.1, (H.2.2 34 (by decide)).2.1⟩
theorem RL_651 {h : Hp} (H : RF h) : zL h 651 = 64 := (H.2.2 34 (by decide)).2.2
theorem RF_1244 {h : Hp} (H : RF h) : zR h 1244 616 = 652 := (H.2.2 35 (by decide)).1
theorem RO_652 {h : Hp} (H : RF h) : isO h 652 22 := ⟨by decide, Nat.lt_of_lt_of_le (by decide) H.1, (H.2.2 35 (by decide)).2.1⟩
theorem RL_652 {h : Hp} (H : RF h) : zL h 652 = 64 := (H.2.2 35 (by decide)).2.2
theorem RF_1245 {h : Hp} (H : RF h) : zR h 1245 616 = 653 := (H.2.2 36 (by decide)).1
theorem RO_653 {h : Hp} (H : RF h) : isO h 653 22 := ⟨by decide, Nat.lt_of_lt_of_le (by decide) H.1, (H.2.2 36 (by decide)).2.1⟩
theorem RL_653 {h : Hp} (H : RF h) : zL h 653 = 512 := (H.2.2 36 (by decide)).2.2
theorem RF_1246 {h : Hp} (H : RF h) : zR h 1246 616 = 654 := (H.2.2 37 (by decide)).1
theorem RO_654 {h : Hp} (H : RF h) : isO h 654 22 := ⟨by decide, Nat.lt_of_lt_of_le (by decide) H.1, (H.2.2 37 (by decide)).2.1⟩
theorem RL_654 {h : Hp} (H : RF h) : zL h 654 = 64 := (H.2.2 37 (by decide)).2.2
theorem RF_1247 {h : Hp} (H : RF h) : zR h 1247 616 = 655 := (H.2.2 38 (by decide)).1
theorem RO_655 {h : Hp} (H : RF h) : isO h 655 22 := ⟨by decide, Nat.lt_of_lt_of_le (by decide) H.1, (H.2.2 38 (by decide)).2.1⟩
theorem RL_655 {h : Hp} (H : RF h) : zL h 655 = 64 := (H.2.2 38 (by decide)).2.2
theorem RF_1248 {h : Hp} (H : RF h) : zR h 1248 616 = 656 := (H.2.2 39 (by decide)).1
theorem RO_656 {h : Hp} (H : RF h) : isO h 656 22 := ⟨by decide, Nat.lt_of_lt_of_le (by decide) H.1, (H.2.2 39 (by decide)).2.1⟩
theorem RL_656 {h : Hp} (H : RF h) : zL h 656 = 64 := (H.2.2 39 (by decide)).2.2
theorem RF_1249 {h : Hp} (H : RF h) : zR h 1249 616 = 657 := (H.2.2 40 (by decide)).1
theorem RO_657 {h : Hp} (H : RF h) : isO h 657 22 := ⟨by decide, Nat.lt_of_lt_of_le (by decide) H.1, (H.2.2 40 (by decide)).2.1⟩
theorem RL_657 {h : Hp} (H : RF h) : zL h 657 = 64 := (H.2.2 40 (by decide)).2.2
theorem RF_1250 {h : Hp} (H : RF h) : zR h 1250 616 = 658 := (H.2.2 41 (by decide)).1
theorem RO_658 {h : Hp} (H : RF h) : isO h 658 22 := ⟨by decide, Nat.lt_of_lt_of_le (by decide) H.1, (H.2.2 41 (by decide)).2.1⟩
theorem RL_658 {h : Hp} (H : RF h) : zL h 658 = 64 := (H.2.2 41 (by decide)).2.2
theorem RF_1251 {h : Hp} (H : RF h) : zR h 1251 616 = 659 := (H.2.2 42 (by decide)).1
theorem RO_659 {h : Hp} (H : RF h) : isO h 659 22 := ⟨by decide, Nat.lt_of_lt_of_le (by decide) H.1, (H.2.2 42 (by decide)).2.1⟩
theorem RL_659 {h : Hp} (H : RF h) : zL h 659 = 64 := (H.2.2 42 (by decide)).2.2
theorem RF_1252 {h : Hp} (H : RF h) : zR h 1252 616 = 660 := (H.2.2 43 (by decide)).1
theorem RO_660 {h : Hp} (H : RF h) : isO h 660 22 := ⟨by decide, Nat.lt_of_lt_of_le (by decide) H.1, (H.2.2 43 (by decide)).2.1⟩
theorem RL_660 {h : Hp} (H : RF h) : zL h 660 = 64 := (H.2.2 43 (by decide)).2.2
theorem RF_1253 {h : Hp} (H : RF h) : zR h 1253 616 = 661 := (H.2.2 44 (by decide)).1
theorem RO_661 {h : Hp} (H : RF h) : isO h 661 22 := ⟨by decide, Nat.lt_of_lt_of_le (by decide) H.1, (H.2.2 44 (by decide)).2.1⟩
theorem RL_661 {h : Hp} (H : RF h) : zL h 661 = 64 := (H.2.2 44 (by decide)).2.2
theorem RF_1254 {h : Hp} (H : RF h) : zR h 1254 616 = 662 := (H.2.2 45 (by decide)).1
theorem RO_662 {h : Hp} (H : RF h) : isO h 662 22 := ⟨by decide, Nat.lt_of_lt_of_le (by decide) H.1, (H.2.2 45 (by decide)).2.1⟩
theorem RL_662 {h : Hp} (H : RF h) : zL h 662 = 64 := (H.2.2 45 (by decide)).2.2
theorem RF_1255 {h : Hp} (H : RF h) : zR h 1255 616 = 663 := (H.2.2 46 (by decide)).1
theorem RO_663 {h : Hp} (H : RF h) : isO h 663 22 := ⟨by decide, Nat.lt_of_lt_of_le (by decide) H.1, (H.2.2 46 (by decide)).2.1⟩
theorem RL_663 {h : Hp} (H : RF h) : zL h 663 = 64 := (H.2.2 46 (by decide)).2.2
theorem RF_1256 {h : Hp} (H : RF h) : zR h 1256 616 = 664 := (H.2.2 47 (by decide)).1
theorem RO_664 {h : Hp} (H : RF h) : isO h 664 22 := ⟨by decide, Nat.lt_of_lt_of_le (by decide) H.1, (H.2.2 47 (by decide)).2.1⟩
theorem RL_664 {h : Hp} (H : RF h) : zL h 664 = 64 := (H.2.2 47 (by decide)).2.2
theorem RF_1257 {h : Hp} (H : RF h) : zR h 1257 616 = 665 := (H.2.2 48 (by decide)).1
theorem RO_665 {h : Hp} (H : RF h) : isO h 665 22 := ⟨by decide, Nat.lt_of_lt_of_le (by decide) H.1, (H.2.2 48 (by decide)).2.1⟩
theorem RL_665 {h : Hp} (H : RF h) : zL h 665 = 4 := (H.2.2 48 (by decide)).2.2
theorem RF_1258 {h : Hp} (H : RF h) : zR h 1258 616 = 666 := (H.2.2 49 (by decide)).1
theorem RO_666 {h : Hp} (H : RF h) : isO h 666 22 := ⟨by decide, Nat.lt_of_lt_of_le (by decide) H.1, (H.2.2 49 (by decide)).2.1⟩
theorem RL_666 {h : Hp} (H : RF h) : zL h 666 = 4096 := (H.2.2 49 (by decide)).2.2
theorem RF_1259 {h : Hp} (H : RF h) : zR h 1259 616 = 667 := (H.2.2 50 (by decide)).1
theorem RO_667 {h : Hp} (H : RF h) : isO h 667 22 := ⟨by decide, Nat.lt_of_lt_of_le (by decide) H.1, (H.2.2 50 (by decide)).2.1⟩
theorem RL_667 {h : Hp} (H : RF h) : zL h 667 = 4096 := (H.2.2 50 (by decide)).2.2
theorem RF_1260 {h : Hp} (H : RF h) : zR h 1260 616 = 668 := (H.2.2 51 (by decide)).1
theorem RO_668 {h : Hp} (H : RF h) : isO h 668 22 := ⟨by decide, Nat.lt_of_lt_of_le (by decide) H.1, (H.2.2 51 (by decide)).2.1⟩
theorem RL_668 {h : Hp} (H : RF h) : zL h 668 = 4096 := (H.2.2 51 (by decide)).2.2
theorem RF_1261 {h : Hp} (H : RF h) : zR h 1261 616 = 669 := (H.2.2 52 (by decide)).1
theorem RO_669 {h : Hp} (H : RF h) : isO h 669 22 := ⟨by decide, Nat.lt_of_lt_of_le (by decide) H.1, (H.2.2 52 (by decide)).2.1⟩
theorem RL_669 {h : Hp} (H : RF h) : zL h 669 = 1024 := (H.2.2 52 (by decide)).2.2
theorem RF_1262 {h : Hp} (H : RF h) : zR h 1262 616 = 670 := (H.2.2 53 (by decide)).1
theorem RO_670 {h : Hp} (H : RF h) : isO h 670 23 := ⟨by decide, Nat.lt_of_lt_of_le (by decide) H.1, (H.2.2 53 (by decide)).2.1⟩
theorem RL_670 {h : Hp} (H : RF h) : zL h 670 = 8192 := (H.2.2 53 (by decide)).2.2
