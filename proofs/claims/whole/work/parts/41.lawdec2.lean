theorem d_Lw_law_530 : decode code 530 = .ok (.aload_n 1, 1) := by decide +kernel
theorem d_Lw_law_531 : decode code 531 = .ok (.aload_n 0, 1) := by decide +kernel
theorem d_Lw_law_532 : decode code 532 = .ok (.iload_n 3, 1) := by decide +kernel
theorem d_Lw_law_533 : decode code 533 = .ok (.iconst 1, 1) := by decide +kernel
theorem d_Lw_law_534 : decode code 534 = .ok (.iadd, 1) := by decide +kernel
theorem d_Lw_law_535 : decode code 535 = .ok (.iaload, 1) := by decide +kernel
theorem d_Lw_law_536 : decode code 536 = .ok (.aload_n 0, 1) := by decide +kernel
theorem d_Lw_law_537 : decode code 537 = .ok (.iload_n 3, 1) := by decide +kernel
theorem d_Lw_law_538 : decode code 538 = .ok (.iconst 2, 1) := by decide +kernel
theorem d_Lw_law_539 : decode code 539 = .ok (.iadd, 1) := by decide +kernel
theorem d_Lw_law_540 : decode code 540 = .ok (.iaload, 1) := by decide +kernel
theorem d_Lw_law_541 : decode code 541 = .ok (.invokevirtual 50, 3) := by decide +kernel
theorem d_Lw_law_544 : decode code 544 = .ok (.aload_n 2, 1) := by decide +kernel
theorem d_Lw_law_545 : decode code 545 = .ok (.aload_n 0, 1) := by decide +kernel
theorem d_Lw_law_546 : decode code 546 = .ok (.iload_n 3, 1) := by decide +kernel
theorem d_Lw_law_547 : decode code 547 = .ok (.iconst 1, 1) := by decide +kernel
theorem d_Lw_law_548 : decode code 548 = .ok (.iadd, 1) := by decide +kernel
theorem d_Lw_law_549 : decode code 549 = .ok (.iaload, 1) := by decide +kernel
theorem d_Lw_law_550 : decode code 550 = .ok (.aload_n 0, 1) := by decide +kernel
theorem d_Lw_law_551 : decode code 551 = .ok (.iload_n 3, 1) := by decide +kernel
theorem d_Lw_law_552 : decode code 552 = .ok (.iconst 2, 1) := by decide +kernel
theorem d_Lw_law_553 : decode code 553 = .ok (.iadd, 1) := by decide +kernel
theorem d_Lw_law_554 : decode code 554 = .ok (.iaload, 1) := by decide +kernel
theorem d_Lw_law_555 : decode code 555 = .ok (.invokevirtual 53, 3) := by decide +kernel
theorem d_Lw_law_561 : decode code 561 = .ok (.iconst 0, 1) := by decide +kernel
theorem d_Lw_law_562 : decode code 562 = .ok (.ireturn, 1) := by decide +kernel
theorem d_Lw_law_558 : decode code 558 = .ok (.if_icmp .eq 991, 3) := by decide +kernel
theorem d_Lw_law_563 : decode code 563 = .ok (.aload_n 1, 1) := by decide +kernel
theorem d_Lw_law_564 : decode code 564 = .ok (.aload_n 0, 1) := by decide +kernel
theorem d_Lw_law_565 : decode code 565 = .ok (.iload_n 3, 1) := by decide +kernel
theorem d_Lw_law_566 : decode code 566 = .ok (.iconst 1, 1) := by decide +kernel
theorem d_Lw_law_567 : decode code 567 = .ok (.iadd, 1) := by decide +kernel
theorem d_Lw_law_568 : decode code 568 = .ok (.iaload, 1) := by decide +kernel
theorem d_Lw_law_569 : decode code 569 = .ok (.aload_n 0, 1) := by decide +kernel
theorem d_Lw_law_570 : decode code 570 = .ok (.iload_n 3, 1) := by decide +kernel
theorem d_Lw_law_571 : decode code 571 = .ok (.iconst 2, 1) := by decide +kernel
theorem d_Lw_law_572 : decode code 572 = .ok (.iadd, 1) := by decide +kernel
theorem d_Lw_law_573 : decode code 573 = .ok (.iaload, 1) := by decide +kernel
theorem d_Lw_law_574 : decode code 574 = .ok (.aload_n 0, 1) := by decide +kernel
theorem d_Lw_law_575 : decode code 575 = .ok (.iload_n 3, 1) := by decide +kernel
theorem d_Lw_law_576 : decode code 576 = .ok (.iconst 3, 1) := by decide +kernel
theorem d_Lw_law_577 : decode code 577 = .ok (.iadd, 1) := by decide +kernel
theorem d_Lw_law_578 : decode code 578 = .ok (.iaload, 1) := by decide +kernel
theorem d_Lw_law_579 : decode code 579 = .ok (.invokevirtual 54, 3) := by decide +kernel
theorem d_Lw_law_582 : decode code 582 = .ok (.aload_n 2, 1) := by decide +kernel
theorem d_Lw_law_583 : decode code 583 = .ok (.aload_n 0, 1) := by decide +kernel
theorem d_Lw_law_584 : decode code 584 = .ok (.iload_n 3, 1) := by decide +kernel
theorem d_Lw_law_585 : decode code 585 = .ok (.iconst 1, 1) := by decide +kernel
theorem d_Lw_law_586 : decode code 586 = .ok (.iadd, 1) := by decide +kernel
theorem d_Lw_law_587 : decode code 587 = .ok (.iaload, 1) := by decide +kernel
theorem d_Lw_law_588 : decode code 588 = .ok (.aload_n 0, 1) := by decide +kernel
theorem d_Lw_law_589 : decode code 589 = .ok (.iload_n 3, 1) := by decide +kernel
theorem d_Lw_law_590 : decode code 590 = .ok (.iconst 2, 1) := by decide +kernel
theorem d_Lw_law_591 : decode code 591 = .ok (.iadd, 1) := by decide +kernel
theorem d_Lw_law_592 : decode code 592 = .ok (.iaload, 1) := by decide +kernel
theorem d_Lw_law_593 : decode code 593 = .ok (.aload_n 0, 1) := by decide +kernel
theorem d_Lw_law_594 : decode code 594 = .ok (.iload_n 3, 1) := by decide +kernel
theorem d_Lw_law_595 : decode code 595 = .ok (.iconst 3, 1) := by decide +kernel
theorem d_Lw_law_596 : decode code 596 = .ok (.iadd, 1) := by decide +kernel
theorem d_Lw_law_597 : decode code 597 = .ok (.iaload, 1) := by decide +kernel
theorem d_Lw_law_598 : decode code 598 = .ok (.invokevirtual 58, 3) := by decide +kernel
theorem d_Lw_law_604 : decode code 604 = .ok (.iconst 0, 1) := by decide +kernel
theorem d_Lw_law_605 : decode code 605 = .ok (.ireturn, 1) := by decide +kernel
theorem d_Lw_law_601 : decode code 601 = .ok (.if_icmp .eq 948, 3) := by decide +kernel
theorem d_Lw_law_606 : decode code 606 = .ok (.aload_n 1, 1) := by decide +kernel
theorem d_Lw_law_607 : decode code 607 = .ok (.aload_n 0, 1) := by decide +kernel
theorem d_Lw_law_608 : decode code 608 = .ok (.iload_n 3, 1) := by decide +kernel
theorem d_Lw_law_609 : decode code 609 = .ok (.iconst 1, 1) := by decide +kernel
theorem d_Lw_law_610 : decode code 610 = .ok (.iadd, 1) := by decide +kernel
theorem d_Lw_law_611 : decode code 611 = .ok (.iaload, 1) := by decide +kernel
theorem d_Lw_law_612 : decode code 612 = .ok (.aload_n 0, 1) := by decide +kernel
theorem d_Lw_law_613 : decode code 613 = .ok (.iload_n 3, 1) := by decide +kernel
theorem d_Lw_law_614 : decode code 614 = .ok (.iconst 2, 1) := by decide +kernel
theorem d_Lw_law_615 : decode code 615 = .ok (.iadd, 1) := by decide +kernel
theorem d_Lw_law_616 : decode code 616 = .ok (.iaload, 1) := by decide +kernel
theorem d_Lw_law_617 : decode code 617 = .ok (.aload_n 0, 1) := by decide +kernel
theorem d_Lw_law_618 : decode code 618 = .ok (.iload_n 3, 1) := by decide +kernel
theorem d_Lw_law_619 : decode code 619 = .ok (.iconst 3, 1) := by decide +kernel
theorem d_Lw_law_620 : decode code 620 = .ok (.iadd, 1) := by decide +kernel
theorem d_Lw_law_621 : decode code 621 = .ok (.iaload, 1) := by decide +kernel
theorem d_Lw_law_622 : decode code 622 = .ok (.invokevirtual 59, 3) := by decide +kernel
theorem d_Lw_law_625 : decode code 625 = .ok (.aload_n 2, 1) := by decide +kernel
theorem d_Lw_law_626 : decode code 626 = .ok (.aload_n 0, 1) := by decide +kernel
theorem d_Lw_law_627 : decode code 627 = .ok (.iload_n 3, 1) := by decide +kernel
theorem d_Lw_law_628 : decode code 628 = .ok (.iconst 1, 1) := by decide +kernel
theorem d_Lw_law_629 : decode code 629 = .ok (.iadd, 1) := by decide +kernel
theorem d_Lw_law_630 : decode code 630 = .ok (.iaload, 1) := by decide +kernel
theorem d_Lw_law_631 : decode code 631 = .ok (.aload_n 0, 1) := by decide +kernel
theorem d_Lw_law_632 : decode code 632 = .ok (.iload_n 3, 1) := by decide +kernel
theorem d_Lw_law_633 : decode code 633 = .ok (.iconst 2, 1) := by decide +kernel
theorem d_Lw_law_634 : decode code 634 = .ok (.iadd, 1) := by decide +kernel
theorem d_Lw_law_635 : decode code 635 = .ok (.iaload, 1) := by decide +kernel
theorem d_Lw_law_636 : decode code 636 = .ok (.aload_n 0, 1) := by decide +kernel
theorem d_Lw_law_637 : decode code 637 = .ok (.iload_n 3, 1) := by decide +kernel
theorem d_Lw_law_638 : decode code 638 = .ok (.iconst 3, 1) := by decide +kernel
theorem d_Lw_law_639 : decode code 639 = .ok (.iadd, 1) := by decide +kernel
theorem d_Lw_law_640 : decode code 640 = .ok (.iaload, 1) := by decide +kernel
theorem d_Lw_law_641 : decode code 641 = .ok (.invokevirtual 62, 3) := by decide +kernel
theorem d_Lw_law_647 : decode code 647 = .ok (.iconst 0, 1) := by decide +kernel
theorem d_Lw_law_648 : decode code 648 = .ok (.ireturn, 1) := by decide +kernel
theorem d_Lw_law_644 : decode code 644 = .ok (.if_icmp .eq 905, 3) := by decide +kernel
theorem d_Lw_law_649 : decode code 649 = .ok (.aload_n 1, 1) := by decide +kernel
theorem d_Lw_law_650 : decode code 650 = .ok (.aload_n 0, 1) := by decide +kernel
theorem d_Lw_law_651 : decode code 651 = .ok (.iload_n 3, 1) := by decide +kernel
theorem d_Lw_law_652 : decode code 652 = .ok (.iconst 1, 1) := by decide +kernel
theorem d_Lw_law_653 : decode code 653 = .ok (.iadd, 1) := by decide +kernel
theorem d_Lw_law_654 : decode code 654 = .ok (.iaload, 1) := by decide +kernel
theorem d_Lw_law_655 : decode code 655 = .ok (.aload_n 0, 1) := by decide +kernel
theorem d_Lw_law_656 : decode code 656 = .ok (.iload_n 3, 1) := by decide +kernel
theorem d_Lw_law_657 : decode code 657 = .ok (.iconst 2, 1) := by decide +kernel
theorem d_Lw_law_658 : decode code 658 = .ok (.iadd, 1) := by decide +kernel
theorem d_Lw_law_659 : decode code 659 = .ok (.iaload, 1) := by decide +kernel
theorem d_Lw_law_660 : decode code 660 = .ok (.invokevirtual 63, 3) := by decide +kernel
theorem d_Lw_law_663 : decode code 663 = .ok (.aload_n 2, 1) := by decide +kernel
theorem d_Lw_law_664 : decode code 664 = .ok (.aload_n 0, 1) := by decide +kernel
theorem d_Lw_law_665 : decode code 665 = .ok (.iload_n 3, 1) := by decide +kernel
theorem d_Lw_law_666 : decode code 666 = .ok (.iconst 1, 1) := by decide +kernel
theorem d_Lw_law_667 : decode code 667 = .ok (.iadd, 1) := by decide +kernel
theorem d_Lw_law_668 : decode code 668 = .ok (.iaload, 1) := by decide +kernel
theorem d_Lw_law_669 : decode code 669 = .ok (.aload_n 0, 1) := by decide +kernel
theorem d_Lw_law_670 : decode code 670 = .ok (.iload_n 3, 1) := by decide +kernel
theorem d_Lw_law_671 : decode code 671 = .ok (.iconst 2, 1) := by decide +kernel
theorem d_Lw_law_672 : decode code 672 = .ok (.iadd, 1) := by decide +kernel
theorem d_Lw_law_673 : decode code 673 = .ok (.iaload, 1) := by decide +kernel
theorem d_Lw_law_674 : decode code 674 = .ok (.invokevirtual 66, 3) := by decide +kernel
theorem d_Lw_law_680 : decode code 680 = .ok (.iconst 0, 1) := by decide +kernel
theorem d_Lw_law_681 : decode code 681 = .ok (.ireturn, 1) := by decide +kernel
theorem d_Lw_law_677 : decode code 677 = .ok (.if_icmp .eq 872, 3) := by decide +kernel
theorem d_Lw_law_682 : decode code 682 = .ok (.aload_n 1, 1) := by decide +kernel
theorem d_Lw_law_683 : decode code 683 = .ok (.aload_n 0, 1) := by decide +kernel
theorem d_Lw_law_684 : decode code 684 = .ok (.iload_n 3, 1) := by decide +kernel
theorem d_Lw_law_685 : decode code 685 = .ok (.iconst 1, 1) := by decide +kernel
theorem d_Lw_law_686 : decode code 686 = .ok (.iadd, 1) := by decide +kernel
theorem d_Lw_law_687 : decode code 687 = .ok (.iaload, 1) := by decide +kernel
theorem d_Lw_law_688 : decode code 688 = .ok (.aload_n 0, 1) := by decide +kernel
theorem d_Lw_law_689 : decode code 689 = .ok (.iload_n 3, 1) := by decide +kernel
theorem d_Lw_law_690 : decode code 690 = .ok (.iconst 2, 1) := by decide +kernel
theorem d_Lw_law_691 : decode code 691 = .ok (.iadd, 1) := by decide +kernel
theorem d_Lw_law_692 : decode code 692 = .ok (.iaload, 1) := by decide +kernel
theorem d_Lw_law_693 : decode code 693 = .ok (.invokevirtual 67, 3) := by decide +kernel
theorem d_Lw_law_696 : decode code 696 = .ok (.aload_n 2, 1) := by decide +kernel
theorem d_Lw_law_697 : decode code 697 = .ok (.aload_n 0, 1) := by decide +kernel
theorem d_Lw_law_698 : decode code 698 = .ok (.iload_n 3, 1) := by decide +kernel
theorem d_Lw_law_699 : decode code 699 = .ok (.iconst 1, 1) := by decide +kernel
theorem d_Lw_law_700 : decode code 700 = .ok (.iadd, 1) := by decide +kernel
theorem d_Lw_law_701 : decode code 701 = .ok (.iaload, 1) := by decide +kernel
theorem d_Lw_law_702 : decode code 702 = .ok (.aload_n 0, 1) := by decide +kernel
theorem d_Lw_law_703 : decode code 703 = .ok (.iload_n 3, 1) := by decide +kernel
theorem d_Lw_law_704 : decode code 704 = .ok (.iconst 2, 1) := by decide +kernel
theorem d_Lw_law_705 : decode code 705 = .ok (.iadd, 1) := by decide +kernel
theorem d_Lw_law_706 : decode code 706 = .ok (.iaload, 1) := by decide +kernel
theorem d_Lw_law_707 : decode code 707 = .ok (.invokevirtual 71, 3) := by decide +kernel
theorem d_Lw_law_710 : decode code 710 = .ok (.lcmp, 1) := by decide +kernel
theorem d_Lw_law_714 : decode code 714 = .ok (.iconst 0, 1) := by decide +kernel
theorem d_Lw_law_715 : decode code 715 = .ok (.ireturn, 1) := by decide +kernel
theorem d_Lw_law_711 : decode code 711 = .ok (.ifCond .eq 838, 3) := by decide +kernel
theorem d_Lw_law_716 : decode code 716 = .ok (.aload_n 1, 1) := by decide +kernel
theorem d_Lw_law_717 : decode code 717 = .ok (.aload_n 0, 1) := by decide +kernel
theorem d_Lw_law_718 : decode code 718 = .ok (.iload_n 3, 1) := by decide +kernel
theorem d_Lw_law_719 : decode code 719 = .ok (.iconst 1, 1) := by decide +kernel
theorem d_Lw_law_720 : decode code 720 = .ok (.iadd, 1) := by decide +kernel
theorem d_Lw_law_721 : decode code 721 = .ok (.iaload, 1) := by decide +kernel
theorem d_Lw_law_722 : decode code 722 = .ok (.aload_n 0, 1) := by decide +kernel
theorem d_Lw_law_723 : decode code 723 = .ok (.iload_n 3, 1) := by decide +kernel
theorem d_Lw_law_724 : decode code 724 = .ok (.iconst 2, 1) := by decide +kernel
theorem d_Lw_law_725 : decode code 725 = .ok (.iadd, 1) := by decide +kernel
theorem d_Lw_law_726 : decode code 726 = .ok (.iaload, 1) := by decide +kernel
theorem d_Lw_law_727 : decode code 727 = .ok (.aload_n 0, 1) := by decide +kernel
theorem d_Lw_law_728 : decode code 728 = .ok (.iload_n 3, 1) := by decide +kernel
theorem d_Lw_law_729 : decode code 729 = .ok (.iconst 3, 1) := by decide +kernel
theorem d_Lw_law_730 : decode code 730 = .ok (.iadd, 1) := by decide +kernel
theorem d_Lw_law_731 : decode code 731 = .ok (.iaload, 1) := by decide +kernel
theorem d_Lw_law_732 : decode code 732 = .ok (.invokevirtual 72, 3) := by decide +kernel
theorem d_Lw_law_735 : decode code 735 = .ok (.aload_n 2, 1) := by decide +kernel
theorem d_Lw_law_736 : decode code 736 = .ok (.aload_n 0, 1) := by decide +kernel
theorem d_Lw_law_737 : decode code 737 = .ok (.iload_n 3, 1) := by decide +kernel
theorem d_Lw_law_738 : decode code 738 = .ok (.iconst 1, 1) := by decide +kernel
theorem d_Lw_law_739 : decode code 739 = .ok (.iadd, 1) := by decide +kernel
theorem d_Lw_law_740 : decode code 740 = .ok (.iaload, 1) := by decide +kernel
theorem d_Lw_law_741 : decode code 741 = .ok (.aload_n 0, 1) := by decide +kernel
theorem d_Lw_law_742 : decode code 742 = .ok (.iload_n 3, 1) := by decide +kernel
theorem d_Lw_law_743 : decode code 743 = .ok (.iconst 2, 1) := by decide +kernel
theorem d_Lw_law_744 : decode code 744 = .ok (.iadd, 1) := by decide +kernel
theorem d_Lw_law_745 : decode code 745 = .ok (.iaload, 1) := by decide +kernel
theorem d_Lw_law_746 : decode code 746 = .ok (.aload_n 0, 1) := by decide +kernel
theorem d_Lw_law_747 : decode code 747 = .ok (.iload_n 3, 1) := by decide +kernel
theorem d_Lw_law_748 : decode code 748 = .ok (.iconst 3, 1) := by decide +kernel
theorem d_Lw_law_749 : decode code 749 = .ok (.iadd, 1) := by decide +kernel
theorem d_Lw_law_750 : decode code 750 = .ok (.iaload, 1) := by decide +kernel
theorem d_Lw_law_751 : decode code 751 = .ok (.invokevirtual 75, 3) := by decide +kernel
theorem d_Lw_law_757 : decode code 757 = .ok (.iconst 0, 1) := by decide +kernel
theorem d_Lw_law_758 : decode code 758 = .ok (.ireturn, 1) := by decide +kernel
theorem d_Lw_law_754 : decode code 754 = .ok (.if_icmp .eq 795, 3) := by decide +kernel
theorem d_Lw_law_759 : decode code 759 = .ok (.aload_n 1, 1) := by decide +kernel
theorem d_Lw_law_760 : decode code 760 = .ok (.aload_n 0, 1) := by decide +kernel
theorem d_Lw_law_761 : decode code 761 = .ok (.iload_n 3, 1) := by decide +kernel
theorem d_Lw_law_762 : decode code 762 = .ok (.iconst 1, 1) := by decide +kernel
theorem d_Lw_law_763 : decode code 763 = .ok (.iadd, 1) := by decide +kernel
theorem d_Lw_law_764 : decode code 764 = .ok (.iaload, 1) := by decide +kernel
theorem d_Lw_law_765 : decode code 765 = .ok (.invokevirtual 76, 3) := by decide +kernel
theorem d_Lw_law_768 : decode code 768 = .ok (.aload_n 2, 1) := by decide +kernel
theorem d_Lw_law_769 : decode code 769 = .ok (.aload_n 0, 1) := by decide +kernel
theorem d_Lw_law_770 : decode code 770 = .ok (.iload_n 3, 1) := by decide +kernel
theorem d_Lw_law_771 : decode code 771 = .ok (.iconst 1, 1) := by decide +kernel
theorem d_Lw_law_772 : decode code 772 = .ok (.iadd, 1) := by decide +kernel
theorem d_Lw_law_773 : decode code 773 = .ok (.iaload, 1) := by decide +kernel
theorem d_Lw_law_774 : decode code 774 = .ok (.invokevirtual 79, 3) := by decide +kernel
theorem d_Lw_law_780 : decode code 780 = .ok (.iconst 0, 1) := by decide +kernel
theorem d_Lw_law_781 : decode code 781 = .ok (.ireturn, 1) := by decide +kernel
theorem d_Lw_law_777 : decode code 777 = .ok (.if_icmp .eq 772, 3) := by decide +kernel
theorem d_Lw_law_782 : decode code 782 = .ok (.aload_n 1, 1) := by decide +kernel
theorem d_Lw_law_783 : decode code 783 = .ok (.aload_n 0, 1) := by decide +kernel
theorem d_Lw_law_784 : decode code 784 = .ok (.iload_n 3, 1) := by decide +kernel
theorem d_Lw_law_785 : decode code 785 = .ok (.iconst 1, 1) := by decide +kernel
theorem d_Lw_law_786 : decode code 786 = .ok (.iadd, 1) := by decide +kernel
theorem d_Lw_law_787 : decode code 787 = .ok (.iaload, 1) := by decide +kernel
theorem d_Lw_law_788 : decode code 788 = .ok (.aload_n 0, 1) := by decide +kernel
theorem d_Lw_law_789 : decode code 789 = .ok (.iload_n 3, 1) := by decide +kernel
theorem d_Lw_law_790 : decode code 790 = .ok (.iconst 2, 1) := by decide +kernel
theorem d_Lw_law_791 : decode code 791 = .ok (.iadd, 1) := by decide +kernel
theorem d_Lw_law_792 : decode code 792 = .ok (.iaload, 1) := by decide +kernel
theorem d_Lw_law_793 : decode code 793 = .ok (.aload_n 0, 1) := by decide +kernel
theorem d_Lw_law_794 : decode code 794 = .ok (.iload_n 3, 1) := by decide +kernel
theorem d_Lw_law_795 : decode code 795 = .ok (.iconst 3, 1) := by decide +kernel
theorem d_Lw_law_796 : decode code 796 = .ok (.iadd, 1) := by decide +kernel
theorem d_Lw_law_797 : decode code 797 = .ok (.iaload, 1) := by decide +kernel
theorem d_Lw_law_798 : decode code 798 = .ok (.invokevirtual 80, 3) := by decide +kernel
theorem d_Lw_law_801 : decode code 801 = .ok (.aload_n 2, 1) := by decide +kernel
theorem d_Lw_law_802 : decode code 802 = .ok (.aload_n 0, 1) := by decide +kernel
theorem d_Lw_law_803 : decode code 803 = .ok (.iload_n 3, 1) := by decide +kernel
theorem d_Lw_law_804 : decode code 804 = .ok (.iconst 1, 1) := by decide +kernel
theorem d_Lw_law_805 : decode code 805 = .ok (.iadd, 1) := by decide +kernel
theorem d_Lw_law_806 : decode code 806 = .ok (.iaload, 1) := by decide +kernel
theorem d_Lw_law_807 : decode code 807 = .ok (.aload_n 0, 1) := by decide +kernel
theorem d_Lw_law_808 : decode code 808 = .ok (.iload_n 3, 1) := by decide +kernel
theorem d_Lw_law_809 : decode code 809 = .ok (.iconst 2, 1) := by decide +kernel
theorem d_Lw_law_810 : decode code 810 = .ok (.iadd, 1) := by decide +kernel
theorem d_Lw_law_811 : decode code 811 = .ok (.iaload, 1) := by decide +kernel
theorem d_Lw_law_812 : decode code 812 = .ok (.aload_n 0, 1) := by decide +kernel
theorem d_Lw_law_813 : decode code 813 = .ok (.iload_n 3, 1) := by decide +kernel
theorem d_Lw_law_814 : decode code 814 = .ok (.iconst 3, 1) := by decide +kernel
theorem d_Lw_law_815 : decode code 815 = .ok (.iadd, 1) := by decide +kernel
theorem d_Lw_law_816 : decode code 816 = .ok (.iaload, 1) := by decide +kernel
theorem d_Lw_law_817 : decode code 817 = .ok (.invokevirtual 83, 3) := by decide +kernel
theorem d_Lw_law_823 : decode code 823 = .ok (.iconst 0, 1) := by decide +kernel
theorem d_Lw_law_824 : decode code 824 = .ok (.ireturn, 1) := by decide +kernel
theorem d_Lw_law_820 : decode code 820 = .ok (.if_icmp .eq 729, 3) := by decide +kernel
theorem d_Lw_law_825 : decode code 825 = .ok (.aload_n 1, 1) := by decide +kernel
theorem d_Lw_law_826 : decode code 826 = .ok (.aload_n 0, 1) := by decide +kernel
theorem d_Lw_law_827 : decode code 827 = .ok (.iload_n 3, 1) := by decide +kernel
theorem d_Lw_law_828 : decode code 828 = .ok (.iconst 1, 1) := by decide +kernel
theorem d_Lw_law_829 : decode code 829 = .ok (.iadd, 1) := by decide +kernel
theorem d_Lw_law_830 : decode code 830 = .ok (.iaload, 1) := by decide +kernel
theorem d_Lw_law_831 : decode code 831 = .ok (.aload_n 0, 1) := by decide +kernel
theorem d_Lw_law_832 : decode code 832 = .ok (.iload_n 3, 1) := by decide +kernel
theorem d_Lw_law_833 : decode code 833 = .ok (.iconst 2, 1) := by decide +kernel
theorem d_Lw_law_834 : decode code 834 = .ok (.iadd, 1) := by decide +kernel
theorem d_Lw_law_835 : decode code 835 = .ok (.iaload, 1) := by decide +kernel
theorem d_Lw_law_836 : decode code 836 = .ok (.aload_n 0, 1) := by decide +kernel
theorem d_Lw_law_837 : decode code 837 = .ok (.iload_n 3, 1) := by decide +kernel
theorem d_Lw_law_838 : decode code 838 = .ok (.iconst 3, 1) := by decide +kernel
theorem d_Lw_law_839 : decode code 839 = .ok (.iadd, 1) := by decide +kernel
theorem d_Lw_law_840 : decode code 840 = .ok (.iaload, 1) := by decide +kernel
theorem d_Lw_law_841 : decode code 841 = .ok (.aload_n 0, 1) := by decide +kernel
theorem d_Lw_law_842 : decode code 842 = .ok (.iload_n 3, 1) := by decide +kernel
theorem d_Lw_law_843 : decode code 843 = .ok (.iconst 4, 1) := by decide +kernel
theorem d_Lw_law_844 : decode code 844 = .ok (.iadd, 1) := by decide +kernel
theorem d_Lw_law_845 : decode code 845 = .ok (.iaload, 1) := by decide +kernel
theorem d_Lw_law_846 : decode code 846 = .ok (.invokevirtual 84, 3) := by decide +kernel
theorem d_Lw_law_849 : decode code 849 = .ok (.aload_n 2, 1) := by decide +kernel
theorem d_Lw_law_850 : decode code 850 = .ok (.aload_n 0, 1) := by decide +kernel
theorem d_Lw_law_851 : decode code 851 = .ok (.iload_n 3, 1) := by decide +kernel
theorem d_Lw_law_852 : decode code 852 = .ok (.iconst 1, 1) := by decide +kernel
theorem d_Lw_law_853 : decode code 853 = .ok (.iadd, 1) := by decide +kernel
theorem d_Lw_law_854 : decode code 854 = .ok (.iaload, 1) := by decide +kernel
theorem d_Lw_law_855 : decode code 855 = .ok (.aload_n 0, 1) := by decide +kernel
theorem d_Lw_law_856 : decode code 856 = .ok (.iload_n 3, 1) := by decide +kernel
theorem d_Lw_law_857 : decode code 857 = .ok (.iconst 2, 1) := by decide +kernel
theorem d_Lw_law_858 : decode code 858 = .ok (.iadd, 1) := by decide +kernel
theorem d_Lw_law_859 : decode code 859 = .ok (.iaload, 1) := by decide +kernel
theorem d_Lw_law_860 : decode code 860 = .ok (.aload_n 0, 1) := by decide +kernel
theorem d_Lw_law_861 : decode code 861 = .ok (.iload_n 3, 1) := by decide +kernel
theorem d_Lw_law_862 : decode code 862 = .ok (.iconst 3, 1) := by decide +kernel
theorem d_Lw_law_863 : decode code 863 = .ok (.iadd, 1) := by decide +kernel
theorem d_Lw_law_864 : decode code 864 = .ok (.iaload, 1) := by decide +kernel
theorem d_Lw_law_865 : decode code 865 = .ok (.aload_n 0, 1) := by decide +kernel
theorem d_Lw_law_866 : decode code 866 = .ok (.iload_n 3, 1) := by decide +kernel
theorem d_Lw_law_867 : decode code 867 = .ok (.iconst 4, 1) := by decide +kernel
theorem d_Lw_law_868 : decode code 868 = .ok (.iadd, 1) := by decide +kernel
theorem d_Lw_law_869 : decode code 869 = .ok (.iaload, 1) := by decide +kernel
theorem d_Lw_law_870 : decode code 870 = .ok (.invokevirtual 88, 3) := by decide +kernel
theorem d_Lw_law_876 : decode code 876 = .ok (.iconst 0, 1) := by decide +kernel
theorem d_Lw_law_877 : decode code 877 = .ok (.ireturn, 1) := by decide +kernel
theorem d_Lw_law_873 : decode code 873 = .ok (.if_icmp .eq 676, 3) := by decide +kernel
theorem d_Lw_law_878 : decode code 878 = .ok (.aload_n 1, 1) := by decide +kernel
theorem d_Lw_law_879 : decode code 879 = .ok (.aload_n 0, 1) := by decide +kernel
theorem d_Lw_law_880 : decode code 880 = .ok (.iload_n 3, 1) := by decide +kernel
theorem d_Lw_law_881 : decode code 881 = .ok (.iconst 1, 1) := by decide +kernel
theorem d_Lw_law_882 : decode code 882 = .ok (.iadd, 1) := by decide +kernel
theorem d_Lw_law_883 : decode code 883 = .ok (.iaload, 1) := by decide +kernel
